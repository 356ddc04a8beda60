/-! MAKING: a result. Laid by wip/p23/mkres.py -/
theorem ansV_11 (a : Int32) : ansV a 1 1 0 0 = (((((a ||| 128) ||| 256) ||| 512) ||| 0) : Int32).toInt64 ||| (((0 : Int32).toInt64 &&& 4294967295) <<< ((11 : Int32).toInt64 &&& 63)) := by
  unfold ansV
  rw [if_neg (show ¬ (1 : Int32) = 0 by decide), if_neg (show ¬ (1 : Int32) = 0 by decide), if_pos rfl]
set_option maxHeartbeats 4000000 in
set_option maxRecDepth 100000 in
theorem n_of (l : Launch) (n0 : Nat) (Γ : GG) (C : Nat → va_E) (N : Nat) (a : Int32) : KL l yX0_of (wy yX0_of cX0_of 5 (some .long)) ({ frames := 0, cells := 0, slots := 0, locals := 0 } : Room) n0 Γ C N [.int a, .int 1, .int 1, .int 0, .int 0] (ansV a 1 1 0 0) := by
  refine met_ofN (by decide +kernel) (Nat.le_of_ble_eq_true rfl) (fun p e s m below meth c ls X hr hH hl => ?_)
  have hl : lv_has ls 5 [(0, .int a), (1, .int 1), (2, .int 1), (3, .int 0), (4, .int 0)] := hl
  have hx := X.1.1
  have hb := X.1.2.1
  rw [ansV_11]
  refine lv_iload_n hx hb dX0_of_0 rfl (lv_at hl 0 rfl) ?_
  refine lv_sipush (v := 128) hx hb dX0_of_1 (by decide) ?_
  refine lv_ior hx hb dX0_of_4 ?_
  refine lv_iload_n hx hb dX0_of_5 rfl (lv_at hl 1 rfl) ?_
  refine lv_if_eq (tgt := 15) hx hb dX0_of_6 (by decide) (fun hc => absurd hc (by decide)) (fun _ => ?_)
  refine lv_sipush (v := 256) hx hb dX0_of_9 (by decide) ?_
  refine lv_goto (tgt := 16) hx hb dX0_of_12 (by decide) ?_
  refine lv_ior hx hb dX0_of_16 ?_
  refine lv_iload_n hx hb dX0_of_17 rfl (lv_at hl 2 rfl) ?_
  refine lv_if_eq (tgt := 27) hx hb dX0_of_18 (by decide) (fun hc => absurd hc (by decide)) (fun _ => ?_)
  refine lv_sipush (v := 512) hx hb dX0_of_21 (by decide) ?_
  refine lv_goto (tgt := 28) hx hb dX0_of_24 (by decide) ?_
  refine lv_ior hx hb dX0_of_28 ?_
  refine lv_iload_n hx hb dX0_of_29 rfl (lv_at hl 3 rfl) ?_
  refine lv_if_eq (tgt := 39) hx hb dX0_of_30 (by decide) (fun _ => ?_) (fun hc => absurd rfl hc)
  refine lv_iconst (v := 0) hx hb dX0_of_39 (by decide) ?_
  refine lv_ior hx hb dX0_of_40 ?_
  refine lv_i2l (v := (((((a ||| 128) ||| 256) ||| 512) ||| 0) : Int32).toInt64) hx hb dX0_of_41 rfl ?_
  refine lv_iload hx hb dX0_of_42 (lv_at hl 4 rfl) ?_
  refine lv_i2l (v := (0 : Int32).toInt64) hx hb dX0_of_44 rfl ?_
  refine lv_ldc2 (v := 4294967295) hx hb X.1.2.2.2.1 (X.1.2.2.2.2 _ mw_109) dX0_of_45 ?_
  refine lv_land hx hb dX0_of_48 ?_
  refine lv_bipush (v := 11) hx hb dX0_of_49 (by decide) ?_
  refine lv_lshl (v := ((0 : Int32).toInt64 &&& (4294967295 : Int64)) <<< ((11 : Int32).toInt64 &&& 63)) hx hb dX0_of_51 rfl ?_
  refine lv_lor hx hb dX0_of_52 ?_
  exact n_lret X hr hH dX0_of_53
def upt (k : Nat) (v : Int32) : Nat → Int32 := fun j => if j < k then v else 0
def uptJ (k : Nat) (g : Nat → Int64) : Nat → Int64 := fun j => if j < k then g j else 0
theorem upt_up (k : Nat) (v : Int32) : upd (upt k v) k v = upt (k + 1) v := by
  funext j
  unfold upd upt
  by_cases h : j = k
  · subst h; rw [if_pos rfl, if_pos (by omega)]
  · rw [if_neg h]
    by_cases h2 : j < k
    · rw [if_pos h2, if_pos (by omega)]
    · rw [if_neg h2, if_neg (by omega)]
theorem uptJ_up (k : Nat) (g : Nat → Int64) : vp_updL (uptJ k g) k (g k) = uptJ (k + 1) g := by
  funext j
  unfold vp_updL uptJ
  by_cases h : j = k
  · subst h; rw [if_pos rfl, if_pos (by omega)]
  · rw [if_neg h]
    by_cases h2 : j < k
    · rw [if_pos h2, if_pos (by omega)]
    · rw [if_neg h2, if_neg (by omega)]
theorem upd_z (k : Nat) : upd (fun _ => (0 : Int32)) k 0 = fun _ => 0 := by
  funext j
  unfold upd
  split <;> rfl
theorem upt_z (v : Int32) : upt 0 v = fun _ => 0 := by
  funext j
  unfold upt
  rw [if_neg (by omega)]
theorem uptJ_z (g : Nat → Int64) : uptJ 0 g = fun _ => 0 := by
  funext j
  unfold uptJ
  rw [if_neg (by omega)]
/-- the cells behind a result made at b, of which k slots are set -/
def rcell (n0 : Nat) (Γ : GG) (b k : Nat) : Nat → va_E := fun t => match t with
  | 0 => .inr (5, [.ref (n0 + (b + 1)), .ref (n0 + (b + 1 + 1)), .ref (n0 + (b + 1 + 2)), .int 0])
  | 1 => .inl (Γ.2.1 0, 128, .inl (fun _ => 0))
  | 2 => .inl (Γ.2.1 0, 40, .inl (fun _ => 0))
  | 3 => .inl (Γ.2.1 0, 8, .inl (fun _ => 0))
  | 4 => .inl (Γ.2.1 1, 128, .inr (.inl (fun _ => 0)))
  | 5 => .inl (Γ.2.1 1, 128, .inr (.inl (uptJ k (fun j => ansOf dfD j))))
  | 6 => .inl (Γ.2.1 0, 128, .inl (upt k 1))
  | 7 => .inl (Γ.2.1 2, 128, .inl (fun _ => 0))
  | 8 => .inl (Γ.2.1 2, 128, .inl (fun _ => 0))
  | 9 => .inl (Γ.2.1 0, 128, .inl (fun _ => 0))
  | 10 => .inl (Γ.2.1 0, 128, .inl (upt k (-1)))
  | _ => .inl (Γ.2.1 0, 128, .inl (upt k (-1)))
def robj (n0 b : Nat) : List Value := [.int 0, .ref (n0 + b), .ref (n0 + (b + 4)), .ref (n0 + (b + 5)), .ref (n0 + (b + 6)), .ref (n0 + (b + 7)), .ref (n0 + (b + 8)), .ref (n0 + (b + 9)), .ref (n0 + (b + 10)), .ref (n0 + (b + 11))]
def cRes (n0 : Nat) (Γ : GG) (b i k : Nat) (C : Nat → va_E) : Nat → va_E := fun j => if j = i then .inr (2, robj n0 b) else if j < b then C j else rcell n0 Γ b k (j - b)
theorem cRes_eq (n0 : Nat) (Γ : GG) (b i k : Nat) (C : Nat → va_E) : cRes n0 Γ b i k C i = .inr (2, robj n0 b) := if_pos rfl
theorem cRes_ne {n0 b i k j : Nat} {Γ : GG} {C : Nat → va_E} (h1 : ¬ j = i) (h2 : j < b) : cRes n0 Γ b i k C j = C j := by unfold cRes; rw [if_neg h1, if_pos h2]
theorem cRes_at {n0 b i k : Nat} {Γ : GG} {C : Nat → va_E} (hi : i < b) (t : Nat) : cRes n0 Γ b i k C (b + t) = rcell n0 Γ b k t := by unfold cRes; rw [if_neg (by omega), if_neg (by omega), show b + t - b = t by omega]
set_option maxHeartbeats 4000000 in
set_option maxRecDepth 100000 in
theorem n_setUnbuilt (l : Launch) (n0 : Nat) (Γ : GG) (C : Nat → va_E) (b i k : Nat) (hi : i < b) (hk : k < 128) : KN l yX5_setUnbuilt (wy yX5_setUnbuilt cX5_setUnbuilt 2 none) ({ frames := 1, cells := 0, slots := 0, locals := 24 } : Room) n0 Γ (cRes n0 Γ b i k C) (b + 12) [.ref (n0 + i), .int (nI k)] (cRes n0 Γ b i (k + 1) C) 0 0 := by
  refine met_ofN (by decide +kernel) (Nat.le_of_ble_eq_true rfl) (fun p e s m below meth c ls X hr hH hl => ?_)
  have hl : lv_has ls 2 [(0, .ref (n0 + i)), (1, .int (nI k))] := hl
  have hx := X.1.1
  have hb := X.1.2.1
  have hin : inb (nI k) 128 = true := inb_nI hk (by omega)
  have hcl : (nI k).toNatClampNeg = k := cl_nI (by omega)
  refine lv_aload_n hx hb dX5_setUnbuilt_0 rfl (lv_at hl 0 rfl) ?_
  refine n_get X hH (i := i) (T := TX5) (fs := robj n0 b) (by omega) (cRes_eq ..) rfl inlX5 3 (by decide) (v := .ref (n0 + (b + 5))) rfl (List.mem_of_getElem? (i := 93) (by decide +kernel)) dX5_setUnbuilt_1 ?_
  refine lv_iload_n hx hb dX5_setUnbuilt_4 rfl (lv_at hl 1 rfl) ?_
  refine lv_iload_n hx hb dX5_setUnbuilt_5 rfl (lv_at hl 1 rfl) ?_
  refine lv_iconst (v := 1) hx hb dX5_setUnbuilt_6 (by decide) ?_
  refine lv_iconst (v := 1) hx hb dX5_setUnbuilt_7 (by decide) ?_
  refine lv_iconst (v := 0) hx hb dX5_setUnbuilt_8 (by decide) ?_
  refine lv_iconst (v := 0) hx hb dX5_setUnbuilt_9 (by decide) ?_
  refine n_callSL X hl hH (As := [.int (nI k), .int 1, .int 1, .int 0, .int 0]) (rest := [.int (nI k), .ref (n0 + (b + 5))]) (n := 5) (n_of l n0 Γ _ _ (nI k)) (List.mem_of_getElem? (i := 108) (by decide +kernel)) (List.mem_of_getElem? (i := 105) (by decide +kernel)) (List.mem_of_getElem? (i := 106) (by decide +kernel)) (List.mem_of_getElem? (i := 107) (by decide +kernel)) rfl rfl (by decide +kernel) ⟨Nat.le_of_ble_eq_true rfl, Nat.le_of_ble_eq_true rfl⟩ rfl rfl (Nat.le_of_ble_eq_true rfl) dX5_setUnbuilt_10 ⟨Nat.zero_le _, Nat.zero_le _⟩ (fun H locs hH => ?_)
  refine n_lst X hH (i := b + 5) (by omega) (by rw [cRes_at hi 5]; rfl) hin dX5_setUnbuilt_13 (fun H locs hH => ?_)
  refine lv_aload_n hx hb dX5_setUnbuilt_14 rfl (lv_at hl 0 rfl) ?_
  refine n_get X hH (i := i) (T := TX5) (fs := robj n0 b) (by omega) (by rw [updE_ne (by omega), cRes_eq]) rfl inlX5 4 (by decide) (v := .ref (n0 + (b + 6))) rfl (List.mem_of_getElem? (i := 94) (by decide +kernel)) dX5_setUnbuilt_15 ?_
  refine lv_iload_n hx hb dX5_setUnbuilt_18 rfl (lv_at hl 1 rfl) ?_
  refine lv_iconst (v := 1) hx hb dX5_setUnbuilt_19 (by decide) ?_
  refine n_ist X hH (i := b + 6) (by omega) (by rw [updE_ne (by omega), cRes_at hi 6]; rfl) hin dX5_setUnbuilt_20 (fun H locs hH => ?_)
  refine lv_aload_n hx hb dX5_setUnbuilt_21 rfl (lv_at hl 0 rfl) ?_
  refine n_get X hH (i := i) (T := TX5) (fs := robj n0 b) (by omega) (by rw [updE_ne (by omega), updE_ne (by omega), cRes_eq]) rfl inlX5 5 (by decide) (v := .ref (n0 + (b + 7))) rfl (List.mem_of_getElem? (i := 96) (by decide +kernel)) dX5_setUnbuilt_22 ?_
  refine lv_iload_n hx hb dX5_setUnbuilt_25 rfl (lv_at hl 1 rfl) ?_
  refine lv_iconst (v := 0) hx hb dX5_setUnbuilt_26 (by decide) ?_
  refine n_zst X hH (i := b + 7) (by omega) (by rw [updE_ne (by omega), updE_ne (by omega), cRes_at hi 7]; rfl) hin rfl dX5_setUnbuilt_27 (fun H locs hH => ?_)
  refine lv_aload_n hx hb dX5_setUnbuilt_28 rfl (lv_at hl 0 rfl) ?_
  refine n_get X hH (i := i) (T := TX5) (fs := robj n0 b) (by omega) (by rw [updE_ne (by omega), updE_ne (by omega), updE_ne (by omega), cRes_eq]) rfl inlX5 6 (by decide) (v := .ref (n0 + (b + 8))) rfl (List.mem_of_getElem? (i := 97) (by decide +kernel)) dX5_setUnbuilt_29 ?_
  refine lv_iload_n hx hb dX5_setUnbuilt_32 rfl (lv_at hl 1 rfl) ?_
  refine lv_iconst (v := 0) hx hb dX5_setUnbuilt_33 (by decide) ?_
  refine n_zst X hH (i := b + 8) (by omega) (by rw [updE_ne (by omega), updE_ne (by omega), updE_ne (by omega), cRes_at hi 8]; rfl) hin rfl dX5_setUnbuilt_34 (fun H locs hH => ?_)
  refine lv_aload_n hx hb dX5_setUnbuilt_35 rfl (lv_at hl 0 rfl) ?_
  refine n_get X hH (i := i) (T := TX5) (fs := robj n0 b) (by omega) (by rw [updE_ne (by omega), updE_ne (by omega), updE_ne (by omega), updE_ne (by omega), cRes_eq]) rfl inlX5 7 (by decide) (v := .ref (n0 + (b + 9))) rfl (List.mem_of_getElem? (i := 98) (by decide +kernel)) dX5_setUnbuilt_36 ?_
  refine lv_iload_n hx hb dX5_setUnbuilt_39 rfl (lv_at hl 1 rfl) ?_
  refine lv_iconst (v := 0) hx hb dX5_setUnbuilt_40 (by decide) ?_
  refine n_ist X hH (i := b + 9) (by omega) (by rw [updE_ne (by omega), updE_ne (by omega), updE_ne (by omega), updE_ne (by omega), cRes_at hi 9]; rfl) hin dX5_setUnbuilt_41 (fun H locs hH => ?_)
  refine lv_aload_n hx hb dX5_setUnbuilt_42 rfl (lv_at hl 0 rfl) ?_
  refine n_get X hH (i := i) (T := TX5) (fs := robj n0 b) (by omega) (by rw [updE_ne (by omega), updE_ne (by omega), updE_ne (by omega), updE_ne (by omega), updE_ne (by omega), cRes_eq]) rfl inlX5 8 (by decide) (v := .ref (n0 + (b + 10))) rfl (List.mem_of_getElem? (i := 99) (by decide +kernel)) dX5_setUnbuilt_43 ?_
  refine lv_iload_n hx hb dX5_setUnbuilt_46 rfl (lv_at hl 1 rfl) ?_
  refine lv_iconst (v := (-1)) hx hb dX5_setUnbuilt_47 (by decide) ?_
  refine n_ist X hH (i := b + 10) (by omega) (by rw [updE_ne (by omega), updE_ne (by omega), updE_ne (by omega), updE_ne (by omega), updE_ne (by omega), cRes_at hi 10]; rfl) hin dX5_setUnbuilt_48 (fun H locs hH => ?_)
  refine lv_aload_n hx hb dX5_setUnbuilt_49 rfl (lv_at hl 0 rfl) ?_
  refine n_get X hH (i := i) (T := TX5) (fs := robj n0 b) (by omega) (by rw [updE_ne (by omega), updE_ne (by omega), updE_ne (by omega), updE_ne (by omega), updE_ne (by omega), updE_ne (by omega), cRes_eq]) rfl inlX5 9 (by decide) (v := .ref (n0 + (b + 11))) rfl (List.mem_of_getElem? (i := 100) (by decide +kernel)) dX5_setUnbuilt_50 ?_
  refine lv_iload_n hx hb dX5_setUnbuilt_53 rfl (lv_at hl 1 rfl) ?_
  refine lv_iconst (v := (-1)) hx hb dX5_setUnbuilt_54 (by decide) ?_
  refine n_ist X hH (i := b + 11) (by omega) (by rw [updE_ne (by omega), updE_ne (by omega), updE_ne (by omega), updE_ne (by omega), updE_ne (by omega), updE_ne (by omega), cRes_at hi 11]; rfl) hin dX5_setUnbuilt_55 (fun H locs hH => ?_)
  refine n_ret (N := b + 12) (k := 0) X hr hH (fun j hj => ?_) rfl (Nat.le_refl _) dX5_setUnbuilt_56
  rw [hcl]
  by_cases h1 : j = i
  · subst h1
    simp (disch := omega) only [updE_ne, cRes_eq]
  · by_cases h2 : j < b
    · simp (disch := omega) only [updE_ne, cRes_ne]
    · obtain ⟨t, rfl⟩ : ∃ t, j = b + t := ⟨j - b, by omega⟩
      rw [cRes_at hi]
      rcases (show t = 0 ∨ t = 1 ∨ t = 2 ∨ t = 3 ∨ t = 4 ∨ t = 5 ∨ t = 6 ∨ t = 7 ∨ t = 8 ∨ t = 9 ∨ t = 10 ∨ t = 11 by omega) with rfl | rfl | rfl | rfl | rfl | rfl | rfl | rfl | rfl | rfl | rfl | rfl
      all_goals simp (disch := omega) only [updE_ne, updE_eq, cRes_at hi]
      all_goals simp only [rcell, upt_up, uptJ_up, upd_z]
      rw [← ansOf_df, uptJ_up]
set_option maxHeartbeats 4000000 in
set_option maxRecDepth 100000 in
theorem n_X5_init (l : Launch) (n0 : Nat) (Γ : GG) (C : Nat → va_E) (b i : Nat) (hi : i < b) (hC : C i = .inr (2, [.int 0, .null, .null, .null, .null, .null, .null, .null, .null, .null])) : KN l yX5_init (wy yX5_init cX5_init 2 none) ({ frames := 2, cells := 12, slots := 1204, locals := 45 } : Room) n0 Γ C b [.ref (n0 + i)] (cRes n0 Γ b i 128 C) 12 1204 := by
  refine met_ofN (by decide +kernel) (Nat.le_of_ble_eq_true rfl) (fun p e s m below meth c ls X hr hH hl => ?_)
  have hl : lv_has ls 2 [(0, .ref (n0 + i))] := hl
  have hx := X.1.1
  have hb := X.1.2.1
  have loop : ∀ d k, k + d = 128 → ∀ (H : Heap) (locs : List Loc) (ls : Array Slot), HN n0 Γ (cRes n0 Γ b i k C) (b + 12) s.heap H locs 12 → lv_has ls 2 [(1, .int (nI k)), (0, .ref (n0 + i))] → W p l e ({ frames := 2, cells := 12, slots := 1204, locals := 45 } : Room) s m ([.ref (n0 + i)] : List Value).toArray below meth c H locs 12 1204 (MQ below (va_Qv (fun (_ : Unit) => True) (fun _ t => CN n0 Γ (cRes n0 Γ b i 128 C) (b + 12) t) (fun q => n0 ≤ q)) ([.ref (n0 + i)] : List Value).toArray s 12 1204 (fun q => n0 ≤ q)) (F0 m 89 ls []) := by
    intro d
    induction d with
    | zero =>
      intro k hk H locs ls hH hl
      have hk : k = 128 := by omega
      subst hk
      refine lv_iload_n hx hb dX5_init_89 rfl (lv_at hl 0 rfl) ?_
      refine lv_sipush (v := 128) hx hb dX5_init_90 (by decide) ?_
      refine lv_icmp_ge (tgt := 107) hx hb dX5_init_93 (by decide) (fun _ => ?_) (fun hc => absurd (show (128 : Int32) ≤ nI 128 by decide) hc)
      exact n_ret (N := b) (k := 12) X hr hH (fun _ _ => rfl) rfl (Nat.le_refl _) dX5_init_107
    | succ d ih =>
      intro k hk H locs ls hH hl
      refine lv_iload_n hx hb dX5_init_89 rfl (lv_at hl 0 rfl) ?_
      refine lv_sipush (v := 128) hx hb dX5_init_90 (by decide) ?_
      refine lv_icmp_ge (tgt := 107) hx hb dX5_init_93 (by decide) (fun hc => absurd hc (by rw [le_128 (by omega)]; omega)) (fun _ => ?_)
      refine lv_aload_n hx hb dX5_init_96 rfl (lv_at hl 1 rfl) ?_
      refine lv_iload_n hx hb dX5_init_97 rfl (lv_at hl 0 rfl) ?_
      refine n_callV X hl hH (i := i) (ci := 2) (q := (RX5, TX5, 10)) (fs := robj n0 b) (As := [.int (nI k)]) (rest := []) (n := 1) (by omega) (cRes_eq ..) rfl rfl (n_setUnbuilt l n0 Γ C b i k hi (by omega)) (List.mem_of_getElem? (i := 104) (by decide +kernel)) (List.mem_of_getElem? (i := 101) (by decide +kernel)) (List.mem_of_getElem? (i := 102) (by decide +kernel)) (List.mem_of_getElem? (i := 103) (by decide +kernel)) (List.mem_of_getElem? (i := 72) (by decide +kernel)) rfl rfl (by decide +kernel) ⟨Nat.le_of_ble_eq_true rfl, Nat.le_of_ble_eq_true rfl⟩ rfl rfl (Nat.le_of_ble_eq_true rfl) dX5_init_98 ⟨Nat.le_of_ble_eq_true rfl, Nat.le_of_ble_eq_true rfl⟩ (fun H locs hH => ?_)
      refine lv_iinc (v := nI (k + 1)) (lv' := [(1, .int (nI (k + 1))), (0, .ref (n0 + i))]) hx hb dX5_init_101 hl (k := 0) rfl (by rw [← nI_1]; rfl) (by decide) rfl (fun ls hl => ?_)
      refine lv_goto (tgt := 89) hx hb dX5_init_104 (by decide) ?_
      exact ih (k + 1) (by omega) _ _ _ hH (lv_sub hl [0, 1] rfl)
  refine lv_aload_n hx hb dX5_init_0 rfl (lv_at hl 0 rfl) ?_
  refine n_obj X hl (List.mem_of_getElem? (i := 88) (by decide +kernel)) ⟨Nat.le_of_ble_eq_true rfl, Nat.le_of_ble_eq_true rfl⟩ dX5_init_1 ?_
  refine lv_aload_n hx hb dX5_init_4 rfl (lv_at hl 0 rfl) ?_
  refine n_new X hH (ci := 5) (T := TX8) rfl inlX8 tyX8 tyX8_ok (List.mem_of_getElem? (i := 89) (by decide +kernel)) (List.mem_of_getElem? (i := 11) (by decide +kernel)) (List.mem_of_getElem? (i := 12) (by decide +kernel)) [.null, .null, .null, .int 0] (fun j hj => by rcases (show j = 0 ∨ j = 1 ∨ j = 2 ∨ j = 3 by omega) with rfl | rfl | rfl | rfl <;> rfl) (Nat.le_of_ble_eq_true rfl) (Nat.le_of_ble_eq_true rfl) dX5_init_5 (fun H hH => ?_)
  have hH : HN n0 Γ _ (b + 1) s.heap _ _ 1 := hH
  refine lv_dup hx hb dX5_init_8 rfl ?_
  refine n_callIN X hl hH (i := b) (k := 3) (ms := 176) (As := []) (rest := [.ref (n0 + b), .ref (n0 + i)]) (n := 0) (n_X8_init l n0 Γ _ (b + 1) b (by omega) (by rw [updE_eq])) (List.mem_of_getElem? (i := 31) (by decide +kernel)) X.2.2.1.2.2.1 (List.mem_of_getElem? (i := 30) (by decide +kernel)) (List.mem_of_getElem? (i := 12) (by decide +kernel)) rfl rfl rfl (by decide +kernel) ⟨Nat.le_of_ble_eq_true rfl, Nat.le_of_ble_eq_true rfl⟩ rfl rfl (Nat.le_of_ble_eq_true rfl) dX5_init_9 ⟨Nat.le_of_ble_eq_true rfl, Nat.le_of_ble_eq_true rfl⟩ (fun H locs hH => ?_)
  have hH : HN n0 Γ _ (b + 4) s.heap _ _ 4 := hH
  refine n_putF X hH (i := i) (by omega) (by rw [cX8_ne (by omega) (by omega), updE_ne (by omega)]; exact hC) (T := TX5) rfl inlX5 tyX5 tyX5_ok nmX5 1 (by decide) (List.mem_of_getElem? (i := 90) (by decide +kernel)) rfl rfl rfl (ty := tyX5 1) (by decide +kernel) rfl rfl (Nat.le_of_ble_eq_true rfl) dX5_init_12 (fun H locs hH => ?_)
  have hH : HN n0 Γ _ (b + 4) s.heap _ _ 4 := hH
  refine lv_aload_n hx hb dX5_init_15 rfl (lv_at hl 0 rfl) ?_
  refine lv_sipush (v := 128) hx hb dX5_init_16 (by decide) ?_
  refine n_newJ X hH (N' := 128) (by decide) (by decide +kernel) (by omega) (Nat.le_of_ble_eq_true rfl) (Nat.le_of_ble_eq_true rfl) dX5_init_19 (fun H hH => ?_)
  have hH : HN n0 Γ _ (b + 5) s.heap _ _ 5 := hH
  refine n_putF X hH (i := i) (by omega) (by rw [updE_ne (by omega), updE_eq]) (T := TX5) rfl inlX5 tyX5 tyX5_ok nmX5 2 (by decide) (List.mem_of_getElem? (i := 92) (by decide +kernel)) rfl rfl rfl (ty := tyX5 2) (by decide +kernel) rfl rfl (Nat.le_of_ble_eq_true rfl) dX5_init_21 (fun H locs hH => ?_)
  have hH : HN n0 Γ _ (b + 5) s.heap _ _ 5 := hH
  refine lv_aload_n hx hb dX5_init_24 rfl (lv_at hl 0 rfl) ?_
  refine lv_sipush (v := 128) hx hb dX5_init_25 (by decide) ?_
  refine n_newJ X hH (N' := 128) (by decide) (by decide +kernel) (by omega) (Nat.le_of_ble_eq_true rfl) (Nat.le_of_ble_eq_true rfl) dX5_init_28 (fun H hH => ?_)
  have hH : HN n0 Γ _ (b + 6) s.heap _ _ 6 := hH
  refine n_putF X hH (i := i) (by omega) (by rw [updE_ne (by omega), updE_eq]) (T := TX5) rfl inlX5 tyX5 tyX5_ok nmX5 3 (by decide) (List.mem_of_getElem? (i := 93) (by decide +kernel)) rfl rfl rfl (ty := tyX5 3) (by decide +kernel) rfl rfl (Nat.le_of_ble_eq_true rfl) dX5_init_30 (fun H locs hH => ?_)
  have hH : HN n0 Γ _ (b + 6) s.heap _ _ 6 := hH
  refine lv_aload_n hx hb dX5_init_33 rfl (lv_at hl 0 rfl) ?_
  refine lv_sipush (v := 128) hx hb dX5_init_34 (by decide) ?_
  refine n_newI X hH (N' := 128) (by decide) (by decide +kernel) (by omega) (Nat.le_of_ble_eq_true rfl) (Nat.le_of_ble_eq_true rfl) dX5_init_37 (fun H hH => ?_)
  have hH : HN n0 Γ _ (b + 7) s.heap _ _ 7 := hH
  refine n_putF X hH (i := i) (by omega) (by rw [updE_ne (by omega), updE_eq]) (T := TX5) rfl inlX5 tyX5 tyX5_ok nmX5 4 (by decide) (List.mem_of_getElem? (i := 94) (by decide +kernel)) rfl rfl rfl (ty := tyX5 4) (by decide +kernel) rfl rfl (Nat.le_of_ble_eq_true rfl) dX5_init_39 (fun H locs hH => ?_)
  have hH : HN n0 Γ _ (b + 7) s.heap _ _ 7 := hH
  refine lv_aload_n hx hb dX5_init_42 rfl (lv_at hl 0 rfl) ?_
  refine lv_sipush (v := 128) hx hb dX5_init_43 (by decide) ?_
  refine n_newZ X hH (N' := 128) (by decide) (by decide +kernel) (by omega) (Nat.le_of_ble_eq_true rfl) (Nat.le_of_ble_eq_true rfl) dX5_init_46 (fun H hH => ?_)
  have hH : HN n0 Γ _ (b + 8) s.heap _ _ 8 := hH
  refine n_putF X hH (i := i) (by omega) (by rw [updE_ne (by omega), updE_eq]) (T := TX5) rfl inlX5 tyX5 tyX5_ok nmX5 5 (by decide) (List.mem_of_getElem? (i := 96) (by decide +kernel)) rfl rfl rfl (ty := tyX5 5) (by decide +kernel) rfl rfl (Nat.le_of_ble_eq_true rfl) dX5_init_48 (fun H locs hH => ?_)
  have hH : HN n0 Γ _ (b + 8) s.heap _ _ 8 := hH
  refine lv_aload_n hx hb dX5_init_51 rfl (lv_at hl 0 rfl) ?_
  refine lv_sipush (v := 128) hx hb dX5_init_52 (by decide) ?_
  refine n_newZ X hH (N' := 128) (by decide) (by decide +kernel) (by omega) (Nat.le_of_ble_eq_true rfl) (Nat.le_of_ble_eq_true rfl) dX5_init_55 (fun H hH => ?_)
  have hH : HN n0 Γ _ (b + 9) s.heap _ _ 9 := hH
  refine n_putF X hH (i := i) (by omega) (by rw [updE_ne (by omega), updE_eq]) (T := TX5) rfl inlX5 tyX5 tyX5_ok nmX5 6 (by decide) (List.mem_of_getElem? (i := 97) (by decide +kernel)) rfl rfl rfl (ty := tyX5 6) (by decide +kernel) rfl rfl (Nat.le_of_ble_eq_true rfl) dX5_init_57 (fun H locs hH => ?_)
  have hH : HN n0 Γ _ (b + 9) s.heap _ _ 9 := hH
  refine lv_aload_n hx hb dX5_init_60 rfl (lv_at hl 0 rfl) ?_
  refine lv_sipush (v := 128) hx hb dX5_init_61 (by decide) ?_
  refine n_newI X hH (N' := 128) (by decide) (by decide +kernel) (by omega) (Nat.le_of_ble_eq_true rfl) (Nat.le_of_ble_eq_true rfl) dX5_init_64 (fun H hH => ?_)
  have hH : HN n0 Γ _ (b + 10) s.heap _ _ 10 := hH
  refine n_putF X hH (i := i) (by omega) (by rw [updE_ne (by omega), updE_eq]) (T := TX5) rfl inlX5 tyX5 tyX5_ok nmX5 7 (by decide) (List.mem_of_getElem? (i := 98) (by decide +kernel)) rfl rfl rfl (ty := tyX5 7) (by decide +kernel) rfl rfl (Nat.le_of_ble_eq_true rfl) dX5_init_66 (fun H locs hH => ?_)
  have hH : HN n0 Γ _ (b + 10) s.heap _ _ 10 := hH
  refine lv_aload_n hx hb dX5_init_69 rfl (lv_at hl 0 rfl) ?_
  refine lv_sipush (v := 128) hx hb dX5_init_70 (by decide) ?_
  refine n_newI X hH (N' := 128) (by decide) (by decide +kernel) (by omega) (Nat.le_of_ble_eq_true rfl) (Nat.le_of_ble_eq_true rfl) dX5_init_73 (fun H hH => ?_)
  have hH : HN n0 Γ _ (b + 11) s.heap _ _ 11 := hH
  refine n_putF X hH (i := i) (by omega) (by rw [updE_ne (by omega), updE_eq]) (T := TX5) rfl inlX5 tyX5 tyX5_ok nmX5 8 (by decide) (List.mem_of_getElem? (i := 99) (by decide +kernel)) rfl rfl rfl (ty := tyX5 8) (by decide +kernel) rfl rfl (Nat.le_of_ble_eq_true rfl) dX5_init_75 (fun H locs hH => ?_)
  have hH : HN n0 Γ _ (b + 11) s.heap _ _ 11 := hH
  refine lv_aload_n hx hb dX5_init_78 rfl (lv_at hl 0 rfl) ?_
  refine lv_sipush (v := 128) hx hb dX5_init_79 (by decide) ?_
  refine n_newI X hH (N' := 128) (by decide) (by decide +kernel) (by omega) (Nat.le_of_ble_eq_true rfl) (Nat.le_of_ble_eq_true rfl) dX5_init_82 (fun H hH => ?_)
  have hH : HN n0 Γ _ (b + 12) s.heap _ _ 12 := hH
  refine n_putF X hH (i := i) (by omega) (by rw [updE_ne (by omega), updE_eq]) (T := TX5) rfl inlX5 tyX5 tyX5_ok nmX5 9 (by decide) (List.mem_of_getElem? (i := 100) (by decide +kernel)) rfl rfl rfl (ty := tyX5 9) (by decide +kernel) rfl rfl (Nat.le_of_ble_eq_true rfl) dX5_init_84 (fun H locs hH => ?_)
  have hH : HN n0 Γ _ (b + 12) s.heap _ _ 12 := hH
  refine lv_iconst (v := 0) hx hb dX5_init_87 (by decide) ?_
  refine lv_istore_n (lv' := [(1, .int 0), (0, .ref (n0 + i))]) hx hb dX5_init_88 rfl hl (by decide) rfl (fun ls hl => ?_)
  refine W.widen (k := 12) (n := 1204) (Nat.le_of_ble_eq_true rfl) (Nat.le_of_ble_eq_true rfl) ?_
  refine loop 128 0 (by omega) _ _ _ (hH.c (fun j hj => ?_)) hl
  by_cases h1 : j = i
  · subst h1
    rw [cRes_eq]
    simp (disch := omega) only [updE_ne, updE_eq]
    rfl
  · by_cases h2 : j < b
    · simp (disch := omega) only [updE_ne, cRes_ne, cX8_ne]
    · obtain ⟨t, rfl⟩ : ∃ t, j = b + t := ⟨j - b, by omega⟩
      rw [cRes_at hi]
      rcases (show t = 0 ∨ t = 1 ∨ t = 2 ∨ t = 3 ∨ t = 4 ∨ t = 5 ∨ t = 6 ∨ t = 7 ∨ t = 8 ∨ t = 9 ∨ t = 10 ∨ t = 11 by omega) with rfl | rfl | rfl | rfl | rfl | rfl | rfl | rfl | rfl | rfl | rfl | rfl
      all_goals simp (disch := omega) only [Nat.add_zero, updE_ne, updE_eq, cX8_eq]
      all_goals simp only [rcell, upt_z, uptJ_z]
      all_goals (unfold cX8; rw [if_neg (by omega), if_neg (by omega)])
      · rw [show b + 1 - (b + 1) = 0 by omega]; rfl
      · rw [show b + 2 - (b + 1) = 1 by omega]; rfl
      · rw [show b + 3 - (b + 1) = 2 by omega]; rfl
