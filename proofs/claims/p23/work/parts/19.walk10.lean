/-! WALKS, laid by wip/p23/gen.py: X9_culpritOf, X10_why, X5_callCount, X10_built, X9_isFaulty, X10_slotOfFault, X10_fault, X10_openCall, X10_valueOf -/
/-- CutoffMill$Works.culpritOf(II)I -/
def m_X9_culpritOf (σ : Sg) (i0 : Nat) (x1 : Int32) (x2 : Int32) : Option Int32 := if x2.toInt = 1 then bnd (m_X9_firstUnbuilt σ i0 x1) (fun r102 => some r102) else if x2.toInt = 2 then bnd (m_X6_smallestOf σ x1) (fun r105 => some r105) else if x2.toInt = 3 then bnd (m_X9_resultOf σ i0 x1) (fun r108 => chk (decide (r108 < 30)) (bnd (m_X9_firstOtherText σ i0 r108) (fun r111 => some r111))) else if x2.toInt = 4 then bnd (m_X6_smallestOf σ x1) (fun r114 => some r114) else some ((-1))
set_option maxHeartbeats 4000000 in
set_option maxRecDepth 100000 in
theorem c_X9_culpritOf (l : Launch) {Γ : GG} (hJ : IJ Γ) (σ : Sg) (i0 : Nat) (hi0 : i0 < 2) (x1 : Int32) (x2 : Int32) (rf : Int32) (h : m_X9_culpritOf σ i0 x1 x2 = some rf) : CI l yX9_culpritOf (wy yX9_culpritOf cX9_culpritOf 3 (some .int)) { frames := 3, cells := 0, slots := 0, locals := 67 } Γ σ [.ref (adr Γ (kW i0)), .int x1, .int x2] σ rf := by
  refine met_of (by decide +kernel) hJ (Nat.le_of_ble_eq_true rfl) (fun p e s m below meth c ls X hH hl => ?_)
  have hl : lv_has ls 3 [(0, .ref (adr Γ (kW i0))), (1, .int x1), (2, .int x2)] := hl
  have hx := X.1.1
  have hb := X.1.2.1
  rw [m_X9_culpritOf] at h
  refine lv_iload_n hx hb dX9_culpritOf_0 rfl (lv_at hl 2 rfl) ?_
  by_cases hc : x2.toInt = 1
  · replace h := if_t h hc
    refine lv_tableIn (tgt := 32) hx hb dX9_culpritOf_1 (by rw [hc]; decide) (by rw [hc]; decide) (by rw [hc]; rfl) (by decide) ?_
    refine lv_aload_n hx hb dX9_culpritOf_32 rfl (lv_at hl 0 rfl) ?_
    refine lv_iload_n hx hb dX9_culpritOf_33 rfl (lv_at hl 1 rfl) ?_
    obtain ⟨r102, hq101, h⟩ := bnd_some h
    refine r_callVI X.1 hl hH (As := [.int x1]) (rest := []) (c_X9_firstUnbuilt l X.1.2.2.2.2.2.2.1 σ i0 hi0 x1 _ hq101) (cw_V X.1 1 mw_297 mw_294 mw_295 mw_296 mw_24 rfl rfl (by decide +kernel) ⟨Nat.le_of_ble_eq_true rfl, Nat.le_of_ble_eq_true rfl⟩) (r_recv X.1 hH (kW_lt hi0) (dW0 _ hi0) rfl) rfl rfl (Nat.le_of_ble_eq_true rfl) dX9_culpritOf_34 ⟨Nat.zero_le _, Nat.zero_le _⟩ (fun H locs hH => ?_)
    cases h
    exact e_int X hH rfl dX9_culpritOf_37
  · replace h := if_f h hc
    have hn0 := hc
    by_cases hc : x2.toInt = 2
    · replace h := if_t h hc
      refine lv_tableIn (tgt := 48) hx hb dX9_culpritOf_1 (by rw [hc]; decide) (by rw [hc]; decide) (by rw [hc]; rfl) (by decide) ?_
      refine lv_iload_n hx hb dX9_culpritOf_48 rfl (lv_at hl 1 rfl) ?_
      obtain ⟨r105, hq104, h⟩ := bnd_some h
      refine r_callSI X.1 hl hH (As := [.int x1]) (rest := []) (c_X6_smallestOf l X.1.2.2.2.2.2.2.1 σ x1 _ hq104) (cw_S X.1 1 mw_278 mw_308 mw_277 mw_20 rfl rfl (by decide +kernel) ⟨Nat.le_of_ble_eq_true rfl, Nat.le_of_ble_eq_true rfl⟩) rfl rfl (Nat.le_of_ble_eq_true rfl) dX9_culpritOf_49 ⟨Nat.zero_le _, Nat.zero_le _⟩ (fun H locs hH => ?_)
      cases h
      exact e_int X hH rfl dX9_culpritOf_52
    · replace h := if_f h hc
      have hn1 := hc
      by_cases hc : x2.toInt = 3
      · replace h := if_t h hc
        refine lv_tableIn (tgt := 38) hx hb dX9_culpritOf_1 (by rw [hc]; decide) (by rw [hc]; decide) (by rw [hc]; rfl) (by decide) ?_
        refine lv_aload_n hx hb dX9_culpritOf_38 rfl (lv_at hl 0 rfl) ?_
        refine lv_aload_n hx hb dX9_culpritOf_39 rfl (lv_at hl 0 rfl) ?_
        refine lv_iload_n hx hb dX9_culpritOf_40 rfl (lv_at hl 1 rfl) ?_
        obtain ⟨r108, hq107, h⟩ := bnd_some h
        obtain ⟨hr108, h⟩ := chk_some h
        replace hr108 := of_decide_eq_true hr108
        refine r_callVR X.1 hl hH (As := [.int x1]) (rest := [.ref (adr Γ (kW i0))]) (c_X9_resultOf l X.1.2.2.2.2.2.2.1 σ i0 hi0 x1 _ hq107) (cw_V X.1 1 mw_307 mw_304 mw_305 mw_306 mw_24 rfl rfl (by decide +kernel) ⟨Nat.le_of_ble_eq_true rfl, Nat.le_of_ble_eq_true rfl⟩) (r_recv X.1 hH (kW_lt hi0) (dW0 _ hi0) rfl) rfl rfl (Nat.le_of_ble_eq_true rfl) dX9_culpritOf_41 ⟨Nat.zero_le _, Nat.zero_le _⟩ (fun H locs hH => ?_)
        obtain ⟨r111, hq110, h⟩ := bnd_some h
        refine r_callVI X.1 hl hH (As := [.ref (adr Γ (kR r108))]) (rest := []) (c_X9_firstOtherText l X.1.2.2.2.2.2.2.1 σ i0 hi0 r108 hr108 _ hq110) (cw_V X.1 1 mw_312 mw_309 mw_310 mw_311 mw_24 rfl rfl (by decide +kernel) ⟨Nat.le_of_ble_eq_true rfl, Nat.le_of_ble_eq_true rfl⟩) (r_recv X.1 hH (kW_lt hi0) (dW0 _ hi0) rfl) rfl rfl (Nat.le_of_ble_eq_true rfl) dX9_culpritOf_44 ⟨Nat.zero_le _, Nat.zero_le _⟩ (fun H locs hH => ?_)
        cases h
        exact e_int X hH rfl dX9_culpritOf_47
      · replace h := if_f h hc
        have hn2 := hc
        by_cases hc : x2.toInt = 4
        · replace h := if_t h hc
          refine lv_tableIn (tgt := 48) hx hb dX9_culpritOf_1 (by rw [hc]; decide) (by rw [hc]; decide) (by rw [hc]; rfl) (by decide) ?_
          refine lv_iload_n hx hb dX9_culpritOf_48 rfl (lv_at hl 1 rfl) ?_
          obtain ⟨r114, hq113, h⟩ := bnd_some h
          refine r_callSI X.1 hl hH (As := [.int x1]) (rest := []) (c_X6_smallestOf l X.1.2.2.2.2.2.2.1 σ x1 _ hq113) (cw_S X.1 1 mw_278 mw_308 mw_277 mw_20 rfl rfl (by decide +kernel) ⟨Nat.le_of_ble_eq_true rfl, Nat.le_of_ble_eq_true rfl⟩) rfl rfl (Nat.le_of_ble_eq_true rfl) dX9_culpritOf_49 ⟨Nat.zero_le _, Nat.zero_le _⟩ (fun H locs hH => ?_)
          cases h
          exact e_int X hH rfl dX9_culpritOf_52
        · replace h := if_f h hc
          have hn3 := hc
          refine lv_tableOut (tgt := 53) hx hb dX9_culpritOf_1 (by omega) (by decide) ?_
          refine lv_iconst (v := (-1)) hx hb dX9_culpritOf_53 (by decide) ?_
          cases h
          exact e_int X hH rfl dX9_culpritOf_54
/-- CutoffMill.why(II)I -/
def m_X10_why (σ : Sg) (x1 : Int32) (x2 : Int32) : Option Int32 := bnd (m_X10_checkModule σ x1) (fun _ => bnd (m_X10_checkWithin σ x2 0 3) (fun _ => chk (inb x1 8) (bnd (m_X9_reasonOf σ 0 (σ.1 15 0 x1.toNatClampNeg)) (fun r109 => if x2.toInt = 0 then some r109 else if x2.toInt = 1 then bnd (m_X9_culpritOf σ 0 (σ.1 15 0 x1.toNatClampNeg) r109) (fun r112 => some r112) else if r109 = 4 then bnd (m_X9_resultOf σ 0 (σ.1 15 0 x1.toNatClampNeg)) (fun r115 => chk (decide (r115 < 30)) (bnd (m_X9_firstOtherAnswer σ 0 r115) (fun r118 => bnd (m_X10_partOf σ r118 (x2 - (2 : Int32))) (fun r121 => some r121)))) else some ((-1))))))
set_option maxHeartbeats 4000000 in
set_option maxRecDepth 100000 in
theorem c_X10_why (l : Launch) {Γ : GG} (hJ : IJ Γ) (σ : Sg) (x1 : Int32) (x2 : Int32) (rf : Int32) (h : m_X10_why σ x1 x2 = some rf) : CI l yX10_why (wy yX10_why cX10_why 5 (some .int)) { frames := 4, cells := 0, slots := 0, locals := 89 } Γ σ [.ref (adr Γ 0), .int x1, .int x2] σ rf := by
  refine met_of (by decide +kernel) hJ (Nat.le_of_ble_eq_true rfl) (fun p e s m below meth c ls X hH hl => ?_)
  have hl : lv_has ls 5 [(0, .ref (adr Γ 0)), (1, .int x1), (2, .int x2)] := hl
  have hx := X.1.1
  have hb := X.1.2.1
  rw [m_X10_why] at h
  refine lv_aload_n hx hb dX10_why_0 rfl (lv_at hl 0 rfl) ?_
  refine lv_iload_n hx hb dX10_why_1 rfl (lv_at hl 1 rfl) ?_
  obtain ⟨_, hq101, h⟩ := bnd_some h
  refine r_callVV X.1 hl hH (r := ()) (As := [.int x1]) (rest := []) (c_X10_checkModule l X.1.2.2.2.2.2.2.1 σ x1 () hq101) (cw_V X.1 1 mw_263 mw_260 mw_261 mw_262 mw_2 rfl rfl (by decide +kernel) ⟨Nat.le_of_ble_eq_true rfl, Nat.le_of_ble_eq_true rfl⟩) (r_recv X.1 hH (by decide) rfl rfl) rfl rfl (Nat.le_of_ble_eq_true rfl) dX10_why_2 ⟨Nat.zero_le _, Nat.zero_le _⟩ (fun H locs hH => ?_)
  refine lv_iload_n hx hb dX10_why_5 rfl (lv_at hl 2 rfl) ?_
  refine lv_iconst (v := 0) hx hb dX10_why_6 (by decide) ?_
  refine lv_iconst (v := 3) hx hb dX10_why_7 (by decide) ?_
  obtain ⟨_, hq104, h⟩ := bnd_some h
  refine r_callSV X.1 hl hH (r := ()) (As := [.int x2, .int 0, .int 3]) (rest := []) (c_X10_checkWithin l X.1.2.2.2.2.2.2.1 σ x2 0 3 () hq104) (cw_S X.1 3 mw_268 mw_266 mw_267 mw_2 rfl rfl (by decide +kernel) ⟨Nat.le_of_ble_eq_true rfl, Nat.le_of_ble_eq_true rfl⟩) rfl rfl (Nat.le_of_ble_eq_true rfl) dX10_why_8 ⟨Nat.zero_le _, Nat.zero_le _⟩ (fun H locs hH => ?_)
  refine lv_aload_n hx hb dX10_why_11 rfl (lv_at hl 0 rfl) ?_
  refine r_get X.1 hH (by decide) rfl rfl inlX10 2 (by decide) (v := .ref (adr Γ 12)) rfl mw_21 dX10_why_12 ?_
  refine r_get X.1 hH (by decide) rfl rfl inlX6 3 (by decide) (v := .ref (adr Γ 15)) rfl mw_256 dX10_why_15 ?_
  refine lv_iload_n hx hb dX10_why_18 rfl (lv_at hl 1 rfl) ?_
  obtain ⟨hg107, h⟩ := chk_some h
  refine r_ild X.1 hH (by decide) rfl hg107 dX10_why_19 ?_
  refine lv_istore_n (lv' := [(3, .int (σ.1 15 0 x1.toNatClampNeg)), (0, .ref (adr Γ 0)), (1, .int x1), (2, .int x2)]) hx hb dX10_why_20 rfl hl (by decide) rfl (fun ls hl => ?_)
  refine lv_aload_n hx hb dX10_why_21 rfl (lv_at hl 1 rfl) ?_
  refine r_get X.1 hH (by decide) rfl rfl inlX10 3 (by decide) (v := .ref (adr Γ (kW 0))) rfl mw_25 dX10_why_22 ?_
  refine lv_iload_n hx hb dX10_why_25 rfl (lv_at hl 0 rfl) ?_
  obtain ⟨r109, hq108, h⟩ := bnd_some h
  refine r_callVI X.1 hl hH (As := [.int (σ.1 15 0 x1.toNatClampNeg)]) (rest := []) (c_X9_reasonOf l X.1.2.2.2.2.2.2.1 σ 0 (by omega) (σ.1 15 0 x1.toNatClampNeg) _ hq108) (cw_V X.1 1 mw_293 mw_290 mw_291 mw_292 mw_24 rfl rfl (by decide +kernel) ⟨Nat.le_of_ble_eq_true rfl, Nat.le_of_ble_eq_true rfl⟩) (r_recv X.1 hH (kW_lt (by omega)) (dW0 _ (by omega)) rfl) rfl rfl (Nat.le_of_ble_eq_true rfl) dX10_why_26 ⟨Nat.zero_le _, Nat.zero_le _⟩ (fun H locs hH => ?_)
  refine lv_istore (lv' := [(4, .int r109), (3, .int (σ.1 15 0 x1.toNatClampNeg)), (0, .ref (adr Γ 0)), (1, .int x1), (2, .int x2)]) hx hb dX10_why_29 hl (by decide) rfl (fun ls hl => ?_)
  refine lv_iload_n hx hb dX10_why_31 rfl (lv_at hl 4 rfl) ?_
  by_cases hc : x2.toInt = 0
  · replace h := if_t h hc
    refine lv_lookup (tgt := 60) (off := 28) hx hb dX10_why_32 (by decide) (by rw [hc]; try rfl) (by decide) ?_
    refine lv_iload hx hb dX10_why_60 (lv_at hl 0 rfl) ?_
    cases h
    exact e_int X hH rfl dX10_why_62
  · replace h := if_f h hc
    have hn0 := hc
    by_cases hc : x2.toInt = 1
    · replace h := if_t h hc
      refine lv_lookup (tgt := 63) (off := 31) hx hb dX10_why_32 (by decide) (by rw [hc]; try rfl) (by decide) ?_
      refine lv_aload_n hx hb dX10_why_63 rfl (lv_at hl 2 rfl) ?_
      refine r_get X.1 hH (by decide) rfl rfl inlX10 3 (by decide) (v := .ref (adr Γ (kW 0))) rfl mw_25 dX10_why_64 ?_
      refine lv_iload_n hx hb dX10_why_67 rfl (lv_at hl 1 rfl) ?_
      refine lv_iload hx hb dX10_why_68 (lv_at hl 0 rfl) ?_
      obtain ⟨r112, hq111, h⟩ := bnd_some h
      refine r_callVI X.1 hl hH (As := [.int (σ.1 15 0 x1.toNatClampNeg), .int r109]) (rest := []) (c_X9_culpritOf l X.1.2.2.2.2.2.2.1 σ 0 (by omega) (σ.1 15 0 x1.toNatClampNeg) r109 _ hq111) (cw_V X.1 2 mw_652 mw_649 mw_650 mw_651 mw_24 rfl rfl (by decide +kernel) ⟨Nat.le_of_ble_eq_true rfl, Nat.le_of_ble_eq_true rfl⟩) (r_recv X.1 hH (kW_lt (by omega)) (dW0 _ (by omega)) rfl) rfl rfl (Nat.le_of_ble_eq_true rfl) dX10_why_70 ⟨Nat.zero_le _, Nat.zero_le _⟩ (fun H locs hH => ?_)
      cases h
      exact e_int X hH rfl dX10_why_73
    · replace h := if_f h hc
      have hn1 := hc
      refine lv_lookup (tgt := 74) (off := 42) hx hb dX10_why_32 (by decide) (by simp [Op.lookupswitch.offset, Ne.symm hn0, Ne.symm hn1]) (by decide) ?_
      refine lv_iload hx hb dX10_why_74 (lv_at hl 0 rfl) ?_
      refine lv_iconst (v := 4) hx hb dX10_why_76 (by decide) ?_
      refine lv_icmp_ne (tgt := 104) hx hb dX10_why_77 (by decide) (fun hc => ?_) (fun hc => ?_)
      · replace h := if_f h hc
        refine lv_iconst (v := (-1)) hx hb dX10_why_104 (by decide) ?_
        cases h
        exact e_int X hH rfl dX10_why_105
      · replace h := if_t h hc
        refine lv_aload_n hx hb dX10_why_80 rfl (lv_at hl 2 rfl) ?_
        refine r_get X.1 hH (by decide) rfl rfl inlX10 3 (by decide) (v := .ref (adr Γ (kW 0))) rfl mw_25 dX10_why_81 ?_
        refine lv_aload_n hx hb dX10_why_84 rfl (lv_at hl 2 rfl) ?_
        refine r_get X.1 hH (by decide) rfl rfl inlX10 3 (by decide) (v := .ref (adr Γ (kW 0))) rfl mw_25 dX10_why_85 ?_
        refine lv_iload_n hx hb dX10_why_88 rfl (lv_at hl 1 rfl) ?_
        obtain ⟨r115, hq114, h⟩ := bnd_some h
        obtain ⟨hr115, h⟩ := chk_some h
        replace hr115 := of_decide_eq_true hr115
        refine r_callVR X.1 hl hH (As := [.int (σ.1 15 0 x1.toNatClampNeg)]) (rest := [.ref (adr Γ (kW 0))]) (c_X9_resultOf l X.1.2.2.2.2.2.2.1 σ 0 (by omega) (σ.1 15 0 x1.toNatClampNeg) _ hq114) (cw_V X.1 1 mw_307 mw_653 mw_305 mw_306 mw_24 rfl rfl (by decide +kernel) ⟨Nat.le_of_ble_eq_true rfl, Nat.le_of_ble_eq_true rfl⟩) (r_recv X.1 hH (kW_lt (by omega)) (dW0 _ (by omega)) rfl) rfl rfl (Nat.le_of_ble_eq_true rfl) dX10_why_89 ⟨Nat.zero_le _, Nat.zero_le _⟩ (fun H locs hH => ?_)
        obtain ⟨r118, hq117, h⟩ := bnd_some h
        refine r_callVI X.1 hl hH (As := [.ref (adr Γ (kR r115))]) (rest := []) (c_X9_firstOtherAnswer l X.1.2.2.2.2.2.2.1 σ 0 (by omega) r115 hr115 _ hq117) (cw_V X.1 1 mw_322 mw_654 mw_320 mw_321 mw_24 rfl rfl (by decide +kernel) ⟨Nat.le_of_ble_eq_true rfl, Nat.le_of_ble_eq_true rfl⟩) (r_recv X.1 hH (kW_lt (by omega)) (dW0 _ (by omega)) rfl) rfl rfl (Nat.le_of_ble_eq_true rfl) dX10_why_92 ⟨Nat.zero_le _, Nat.zero_le _⟩ (fun H locs hH => ?_)
        refine lv_iload_n hx hb dX10_why_95 rfl (lv_at hl 4 rfl) ?_
        refine lv_iconst (v := 2) hx hb dX10_why_96 (by decide) ?_
        refine lv_isub hx hb dX10_why_97 ?_
        obtain ⟨r121, hq120, h⟩ := bnd_some h
        refine r_callSI X.1 hl hH (As := [.int r118, .int (x2 - (2 : Int32))]) (rest := []) (c_X10_partOf l X.1.2.2.2.2.2.2.1 σ r118 (x2 - (2 : Int32)) _ hq120) (cw_S X.1 2 mw_609 mw_607 mw_608 mw_2 rfl rfl (by decide +kernel) ⟨Nat.le_of_ble_eq_true rfl, Nat.le_of_ble_eq_true rfl⟩) rfl rfl (Nat.le_of_ble_eq_true rfl) dX10_why_98 ⟨Nat.zero_le _, Nat.zero_le _⟩ (fun H locs hH => ?_)
        refine lv_goto (tgt := 105) hx hb dX10_why_101 (by decide) ?_
        cases h
        exact e_int X hH rfl dX10_why_105
def m_X5_callCount_15 (σ : Sg) (i0 : Nat) (x1 : Int32)  (s0 : Int32) : Option Int32 := chk (inb x1 128) (if (σ.1 36 i0 x1.toNatClampNeg) = ((-1)) then some (s0 + (0 : Int32)) else some (s0 + (1 : Int32)))
set_option maxHeartbeats 4000000 in
set_option maxRecDepth 100000 in
theorem b_X5_callCount_15 {p : Program} {l : Launch} {e : Env} {s : State} {m : MethodId} {args : Array Value} {below : List Frame} {meth : Method} {c : Code} {Γ : GG} (X : MB Γ p s m args meth c cX5_callCount 2 RX5 (some .int)) (σ : Sg) {rf : Int32} (i0 : Nat) (hi0 : i0 < 30) (x1 : Int32) : (∀ (s0 : Int32), (m_X5_callCount_15 σ i0 x1) s0 = some rf → ∀ (H : Heap) (locs : List Loc) (ls : Array Slot), HW (IA Γ) Γ σ s.heap H locs → lv_has ls 2 [(0, .ref (adr Γ (kR i0))), (1, .int x1)] → W p l e ({ frames := 0, cells := 0, slots := 0, locals := 0 } : Room) s m args below meth c H locs 0 0 (QI Γ σ rf below args s) (F0 m 15 ls [.int s0])) := by
  have hx := X.1.1
  have hb := X.1.2.1
  intro s0 h H locs ls hH hl
  rw [m_X5_callCount_15] at h
  refine lv_aload_n hx hb dX5_callCount_15 rfl (lv_at hl 0 rfl) ?_
  refine r_get X.1 hH (kR_lt hi0) (dR0 _ hi0) rfl inlX5 9 (by decide) (v := .ref (adr Γ (kR i0 + 8))) rfl mw_100 dX5_callCount_16 ?_
  refine lv_iload_n hx hb dX5_callCount_19 rfl (lv_at hl 1 rfl) ?_
  obtain ⟨hg102, h⟩ := chk_some h
  refine r_ild X.1 hH (lR _ hi0 8 (by decide)) (dR8 _ hi0) hg102 dX5_callCount_20 ?_
  refine lv_iconst (v := (-1)) hx hb dX5_callCount_21 (by decide) ?_
  refine lv_icmp_ne (tgt := 29) hx hb dX5_callCount_22 (by decide) (fun hc => ?_) (fun hc => ?_)
  · replace h := if_f h hc
    refine lv_iconst (v := 1) hx hb dX5_callCount_29 (by decide) ?_
    refine lv_iadd hx hb dX5_callCount_30 ?_
    cases h
    exact e_int X hH rfl dX5_callCount_31
  · replace h := if_t h hc
    refine lv_iconst (v := 0) hx hb dX5_callCount_25 (by decide) ?_
    refine lv_goto (tgt := 30) hx hb dX5_callCount_26 (by decide) ?_
    refine lv_iadd hx hb dX5_callCount_30 ?_
    cases h
    exact e_int X hH rfl dX5_callCount_31
/-- CutoffMill$Result.callCount(I)I -/
def m_X5_callCount (σ : Sg) (i0 : Nat) (x1 : Int32) : Option Int32 := chk (inb x1 128) (if (σ.1 35 i0 x1.toNatClampNeg) = ((-1)) then m_X5_callCount_15 σ i0 x1 0 else m_X5_callCount_15 σ i0 x1 1)
set_option maxHeartbeats 4000000 in
set_option maxRecDepth 100000 in
theorem c_X5_callCount (l : Launch) {Γ : GG} (hJ : IJ Γ) (σ : Sg) (i0 : Nat) (hi0 : i0 < 30) (x1 : Int32) (rf : Int32) (h : m_X5_callCount σ i0 x1 = some rf) : CI l yX5_callCount (wy yX5_callCount cX5_callCount 2 (some .int)) { frames := 0, cells := 0, slots := 0, locals := 0 } Γ σ [.ref (adr Γ (kR i0)), .int x1] σ rf := by
  refine met_of (by decide +kernel) hJ (Nat.le_of_ble_eq_true rfl) (fun p e s m below meth c ls X hH hl => ?_)
  have hl : lv_has ls 2 [(0, .ref (adr Γ (kR i0))), (1, .int x1)] := hl
  have hx := X.1.1
  have hb := X.1.2.1
  rw [m_X5_callCount] at h
  refine lv_aload_n hx hb dX5_callCount_0 rfl (lv_at hl 0 rfl) ?_
  refine r_get X.1 hH (kR_lt hi0) (dR0 _ hi0) rfl inlX5 8 (by decide) (v := .ref (adr Γ (kR i0 + 7))) rfl mw_99 dX5_callCount_1 ?_
  refine lv_iload_n hx hb dX5_callCount_4 rfl (lv_at hl 1 rfl) ?_
  obtain ⟨hg101, h⟩ := chk_some h
  refine r_ild X.1 hH (lR _ hi0 7 (by decide)) (dR7 _ hi0) hg101 dX5_callCount_5 ?_
  refine lv_iconst (v := (-1)) hx hb dX5_callCount_6 (by decide) ?_
  refine lv_icmp_ne (tgt := 14) hx hb dX5_callCount_7 (by decide) (fun hc => ?_) (fun hc => ?_)
  · replace h := if_f h hc
    refine lv_iconst (v := 1) hx hb dX5_callCount_14 (by decide) ?_
    exact b_X5_callCount_15 X σ i0 hi0 x1   1 h _ _ _ hH (lv_sub hl [0, 1] rfl)
  · replace h := if_t h hc
    refine lv_iconst (v := 0) hx hb dX5_callCount_10 (by decide) ?_
    refine lv_goto (tgt := 15) hx hb dX5_callCount_11 (by decide) ?_
    exact b_X5_callCount_15 X σ i0 hi0 x1   0 h _ _ _ hH (lv_sub hl [0, 1] rfl)
/-- CutoffMill.built(III)I -/
def m_X10_built (σ : Sg) (x1 : Int32) (x2 : Int32) (x3 : Int32) : Option Int32 := bnd (m_X10_checkModule σ x1) (fun _ => bnd (m_X10_checkWithin σ x2 0 15) (fun _ => bnd (m_X10_checkWithin σ x3 0 5) (fun _ => bnd (m_X9_stateOf σ 0 ((x1 * (16 : Int32)) + x2)) (fun r111 => chk (decide (r111 < 30)) (bnd (m_X8_isDeclared σ (r111 + 2) ((x1 * (16 : Int32)) + x2)) (fun r114 => if r114 = 0 then some ((-1)) else if x3.toInt = 0 then chk (inb ((x1 * (16 : Int32)) + x2) 128) (some (σ.1 31 r111 ((x1 * (16 : Int32)) + x2).toNatClampNeg)) else if x3.toInt = 1 then chk (inb ((x1 * (16 : Int32)) + x2) 128) (bnd (m_X0_trait σ (σ.2.1 1 r111 ((x1 * (16 : Int32)) + x2).toNatClampNeg) 4) (fun r119 => some r119)) else if x3.toInt = 2 then chk (inb ((x1 * (16 : Int32)) + x2) 128) (some (σ.1 34 r111 ((x1 * (16 : Int32)) + x2).toNatClampNeg)) else if x3.toInt = 3 then bnd (m_X5_callCount σ r111 ((x1 * (16 : Int32)) + x2)) (fun r123 => some r123) else chk (inb ((x1 * (16 : Int32)) + x2) 128) (bnd (m_X10_partOf σ (σ.1 35 r111 ((x1 * (16 : Int32)) + x2).toNatClampNeg) (x3 - (4 : Int32))) (fun r127 => some r127))))))))
set_option maxHeartbeats 4000000 in
set_option maxRecDepth 100000 in
theorem c_X10_built (l : Launch) {Γ : GG} (hJ : IJ Γ) (σ : Sg) (x1 : Int32) (x2 : Int32) (x3 : Int32) (rf : Int32) (h : m_X10_built σ x1 x2 x3 = some rf) : CI l yX10_built (wy yX10_built cX10_built 6 (some .int)) { frames := 1, cells := 0, slots := 0, locals := 22 } Γ σ [.ref (adr Γ 0), .int x1, .int x2, .int x3] σ rf := by
  refine met_of (by decide +kernel) hJ (Nat.le_of_ble_eq_true rfl) (fun p e s m below meth c ls X hH hl => ?_)
  have hl : lv_has ls 6 [(0, .ref (adr Γ 0)), (1, .int x1), (2, .int x2), (3, .int x3)] := hl
  have hx := X.1.1
  have hb := X.1.2.1
  rw [m_X10_built] at h
  refine lv_aload_n hx hb dX10_built_0 rfl (lv_at hl 0 rfl) ?_
  refine lv_iload_n hx hb dX10_built_1 rfl (lv_at hl 1 rfl) ?_
  obtain ⟨_, hq101, h⟩ := bnd_some h
  refine r_callVV X.1 hl hH (r := ()) (As := [.int x1]) (rest := []) (c_X10_checkModule l X.1.2.2.2.2.2.2.1 σ x1 () hq101) (cw_V X.1 1 mw_263 mw_260 mw_261 mw_262 mw_2 rfl rfl (by decide +kernel) ⟨Nat.le_of_ble_eq_true rfl, Nat.le_of_ble_eq_true rfl⟩) (r_recv X.1 hH (by decide) rfl rfl) rfl rfl (Nat.le_of_ble_eq_true rfl) dX10_built_2 ⟨Nat.zero_le _, Nat.zero_le _⟩ (fun H locs hH => ?_)
  refine lv_iload_n hx hb dX10_built_5 rfl (lv_at hl 2 rfl) ?_
  refine lv_iconst (v := 0) hx hb dX10_built_6 (by decide) ?_
  refine lv_bipush (v := 15) hx hb dX10_built_7 (by decide) ?_
  obtain ⟨_, hq104, h⟩ := bnd_some h
  refine r_callSV X.1 hl hH (r := ()) (As := [.int x2, .int 0, .int 15]) (rest := []) (c_X10_checkWithin l X.1.2.2.2.2.2.2.1 σ x2 0 15 () hq104) (cw_S X.1 3 mw_268 mw_266 mw_267 mw_2 rfl rfl (by decide +kernel) ⟨Nat.le_of_ble_eq_true rfl, Nat.le_of_ble_eq_true rfl⟩) rfl rfl (Nat.le_of_ble_eq_true rfl) dX10_built_9 ⟨Nat.zero_le _, Nat.zero_le _⟩ (fun H locs hH => ?_)
  refine lv_iload_n hx hb dX10_built_12 rfl (lv_at hl 3 rfl) ?_
  refine lv_iconst (v := 0) hx hb dX10_built_13 (by decide) ?_
  refine lv_iconst (v := 5) hx hb dX10_built_14 (by decide) ?_
  obtain ⟨_, hq107, h⟩ := bnd_some h
  refine r_callSV X.1 hl hH (r := ()) (As := [.int x3, .int 0, .int 5]) (rest := []) (c_X10_checkWithin l X.1.2.2.2.2.2.2.1 σ x3 0 5 () hq107) (cw_S X.1 3 mw_268 mw_266 mw_267 mw_2 rfl rfl (by decide +kernel) ⟨Nat.le_of_ble_eq_true rfl, Nat.le_of_ble_eq_true rfl⟩) rfl rfl (Nat.le_of_ble_eq_true rfl) dX10_built_15 ⟨Nat.zero_le _, Nat.zero_le _⟩ (fun H locs hH => ?_)
  refine lv_iload_n hx hb dX10_built_18 rfl (lv_at hl 1 rfl) ?_
  refine lv_bipush (v := 16) hx hb dX10_built_19 (by decide) ?_
  refine lv_imul hx hb dX10_built_21 ?_
  refine lv_iload_n hx hb dX10_built_22 rfl (lv_at hl 2 rfl) ?_
  refine lv_iadd hx hb dX10_built_23 ?_
  refine lv_istore (lv' := [(4, .int ((x1 * (16 : Int32)) + x2)), (0, .ref (adr Γ 0)), (1, .int x1), (2, .int x2), (3, .int x3)]) hx hb dX10_built_24 hl (by decide) rfl (fun ls hl => ?_)
  refine lv_aload_n hx hb dX10_built_26 rfl (lv_at hl 1 rfl) ?_
  refine r_get X.1 hH (by decide) rfl rfl inlX10 3 (by decide) (v := .ref (adr Γ (kW 0))) rfl mw_25 dX10_built_27 ?_
  refine lv_iload hx hb dX10_built_30 (lv_at hl 0 rfl) ?_
  obtain ⟨r111, hq110, h⟩ := bnd_some h
  obtain ⟨hr111, h⟩ := chk_some h
  replace hr111 := of_decide_eq_true hr111
  refine r_callVR X.1 hl hH (As := [.int ((x1 * (16 : Int32)) + x2)]) (rest := []) (c_X9_stateOf l X.1.2.2.2.2.2.2.1 σ 0 (by omega) ((x1 * (16 : Int32)) + x2) _ hq110) (cw_V X.1 1 mw_569 mw_599 mw_567 mw_568 mw_24 rfl rfl (by decide +kernel) ⟨Nat.le_of_ble_eq_true rfl, Nat.le_of_ble_eq_true rfl⟩) (r_recv X.1 hH (kW_lt (by omega)) (dW0 _ (by omega)) rfl) rfl rfl (Nat.le_of_ble_eq_true rfl) dX10_built_32 ⟨Nat.zero_le _, Nat.zero_le _⟩ (fun H locs hH => ?_)
  refine lv_astore (lv' := [(5, .ref (adr Γ (kR r111))), (4, .int ((x1 * (16 : Int32)) + x2)), (0, .ref (adr Γ 0)), (1, .int x1), (2, .int x2), (3, .int x3)]) hx hb dX10_built_35 hl (by decide) rfl (fun ls hl => ?_)
  refine lv_aload hx hb dX10_built_37 (lv_at hl 0 rfl) ?_
  refine r_get X.1 hH (kR_lt hr111) (dR0 _ hr111) rfl inlX5 1 (by decide) (v := .ref (adr Γ (kT (r111 + 2)))) rfl mw_594 dX10_built_39 ?_
  refine lv_iload hx hb dX10_built_42 (lv_at hl 1 rfl) ?_
  obtain ⟨r114, hq113, h⟩ := bnd_some h
  refine r_callVI X.1 hl hH (As := [.int ((x1 * (16 : Int32)) + x2)]) (rest := []) (c_X8_isDeclared l X.1.2.2.2.2.2.2.1 σ (r111 + 2) (by omega) ((x1 * (16 : Int32)) + x2) _ hq113) (cw_V X.1 1 mw_193 mw_336 mw_191 mw_192 mw_12 rfl rfl (by decide +kernel) ⟨Nat.le_of_ble_eq_true rfl, Nat.le_of_ble_eq_true rfl⟩) (r_recv X.1 hH (kT_lt (by omega)) (dT0 _ (by omega)) rfl) rfl rfl (Nat.le_of_ble_eq_true rfl) dX10_built_44 ⟨Nat.zero_le _, Nat.zero_le _⟩ (fun H locs hH => ?_)
  refine lv_if_ne (tgt := 52) hx hb dX10_built_47 (by decide) (fun hc => ?_) (fun hc => ?_)
  · replace h := if_f h hc
    refine lv_iload_n hx hb dX10_built_52 rfl (lv_at hl 5 rfl) ?_
    by_cases hc : x3.toInt = 0
    · replace h := if_t h hc
      refine lv_tableIn (tgt := 84) hx hb dX10_built_53 (by rw [hc]; decide) (by rw [hc]; decide) (by rw [hc]; rfl) (by decide) ?_
      refine lv_aload hx hb dX10_built_84 (lv_at hl 0 rfl) ?_
      refine r_get X.1 hH (kR_lt hr111) (dR0 _ hr111) rfl inlX5 4 (by decide) (v := .ref (adr Γ (kR r111 + 3))) rfl mw_595 dX10_built_86 ?_
      refine lv_iload hx hb dX10_built_89 (lv_at hl 1 rfl) ?_
      obtain ⟨hg116, h⟩ := chk_some h
      refine r_ild X.1 hH (lR _ hr111 3 (by decide)) (dR3 _ hr111) hg116 dX10_built_91 ?_
      cases h
      exact e_int X hH rfl dX10_built_92
    · replace h := if_f h hc
      have hn0 := hc
      by_cases hc : x3.toInt = 1
      · replace h := if_t h hc
        refine lv_tableIn (tgt := 93) hx hb dX10_built_53 (by rw [hc]; decide) (by rw [hc]; decide) (by rw [hc]; rfl) (by decide) ?_
        refine lv_aload hx hb dX10_built_93 (lv_at hl 0 rfl) ?_
        refine r_get X.1 hH (kR_lt hr111) (dR0 _ hr111) rfl inlX5 3 (by decide) (v := .ref (adr Γ (kR r111 + 2))) rfl mw_596 dX10_built_95 ?_
        refine lv_iload hx hb dX10_built_98 (lv_at hl 1 rfl) ?_
        obtain ⟨hg117, h⟩ := chk_some h
        refine r_lld X.1 hH (lR _ hr111 2 (by decide)) (dR2 _ hr111) hg117 dX10_built_100 ?_
        refine lv_iconst (v := 4) hx hb dX10_built_101 (by decide) ?_
        obtain ⟨r119, hq118, h⟩ := bnd_some h
        refine r_callSI X.1 hl hH (As := [.long (σ.2.1 1 r111 ((x1 * (16 : Int32)) + x2).toNatClampNeg), .int 4]) (rest := []) (c_X0_trait l X.1.2.2.2.2.2.2.1 σ (σ.2.1 1 r111 ((x1 * (16 : Int32)) + x2).toNatClampNeg) 4 _ hq118) (cw_S X.1 2 mw_602 mw_600 mw_601 mw_107 rfl rfl (by decide +kernel) ⟨Nat.le_of_ble_eq_true rfl, Nat.le_of_ble_eq_true rfl⟩) rfl rfl (Nat.le_of_ble_eq_true rfl) dX10_built_102 ⟨Nat.zero_le _, Nat.zero_le _⟩ (fun H locs hH => ?_)
        cases h
        exact e_int X hH rfl dX10_built_105
      · replace h := if_f h hc
        have hn1 := hc
        by_cases hc : x3.toInt = 2
        · replace h := if_t h hc
          refine lv_tableIn (tgt := 106) hx hb dX10_built_53 (by rw [hc]; decide) (by rw [hc]; decide) (by rw [hc]; rfl) (by decide) ?_
          refine lv_aload hx hb dX10_built_106 (lv_at hl 0 rfl) ?_
          refine r_get X.1 hH (kR_lt hr111) (dR0 _ hr111) rfl inlX5 7 (by decide) (v := .ref (adr Γ (kR r111 + 6))) rfl mw_597 dX10_built_108 ?_
          refine lv_iload hx hb dX10_built_111 (lv_at hl 1 rfl) ?_
          obtain ⟨hg121, h⟩ := chk_some h
          refine r_ild X.1 hH (lR _ hr111 6 (by decide)) (dR6 _ hr111) hg121 dX10_built_113 ?_
          cases h
          exact e_int X hH rfl dX10_built_114
        · replace h := if_f h hc
          have hn2 := hc
          by_cases hc : x3.toInt = 3
          · replace h := if_t h hc
            refine lv_tableIn (tgt := 115) hx hb dX10_built_53 (by rw [hc]; decide) (by rw [hc]; decide) (by rw [hc]; rfl) (by decide) ?_
            refine lv_aload hx hb dX10_built_115 (lv_at hl 0 rfl) ?_
            refine lv_iload hx hb dX10_built_117 (lv_at hl 1 rfl) ?_
            obtain ⟨r123, hq122, h⟩ := bnd_some h
            refine r_callVI X.1 hl hH (As := [.int ((x1 * (16 : Int32)) + x2)]) (rest := []) (c_X5_callCount l X.1.2.2.2.2.2.2.1 σ r111 hr111 ((x1 * (16 : Int32)) + x2) _ hq122) (cw_V X.1 1 mw_606 mw_603 mw_604 mw_605 mw_72 rfl rfl (by decide +kernel) ⟨Nat.le_of_ble_eq_true rfl, Nat.le_of_ble_eq_true rfl⟩) (r_recv X.1 hH (kR_lt hr111) (dR0 _ hr111) rfl) rfl rfl (Nat.le_of_ble_eq_true rfl) dX10_built_119 ⟨Nat.zero_le _, Nat.zero_le _⟩ (fun H locs hH => ?_)
            cases h
            exact e_int X hH rfl dX10_built_122
          · replace h := if_f h hc
            have hn3 := hc
            refine lv_tableOut (tgt := 123) hx hb dX10_built_53 (by omega) (by decide) ?_
            refine lv_aload hx hb dX10_built_123 (lv_at hl 0 rfl) ?_
            refine r_get X.1 hH (kR_lt hr111) (dR0 _ hr111) rfl inlX5 8 (by decide) (v := .ref (adr Γ (kR r111 + 7))) rfl mw_598 dX10_built_125 ?_
            refine lv_iload hx hb dX10_built_128 (lv_at hl 1 rfl) ?_
            obtain ⟨hg125, h⟩ := chk_some h
            refine r_ild X.1 hH (lR _ hr111 7 (by decide)) (dR7 _ hr111) hg125 dX10_built_130 ?_
            refine lv_iload_n hx hb dX10_built_131 rfl (lv_at hl 5 rfl) ?_
            refine lv_iconst (v := 4) hx hb dX10_built_132 (by decide) ?_
            refine lv_isub hx hb dX10_built_133 ?_
            obtain ⟨r127, hq126, h⟩ := bnd_some h
            refine r_callSI X.1 hl hH (As := [.int (σ.1 35 r111 ((x1 * (16 : Int32)) + x2).toNatClampNeg), .int (x3 - (4 : Int32))]) (rest := []) (c_X10_partOf l X.1.2.2.2.2.2.2.1 σ (σ.1 35 r111 ((x1 * (16 : Int32)) + x2).toNatClampNeg) (x3 - (4 : Int32)) _ hq126) (cw_S X.1 2 mw_609 mw_607 mw_608 mw_2 rfl rfl (by decide +kernel) ⟨Nat.le_of_ble_eq_true rfl, Nat.le_of_ble_eq_true rfl⟩) rfl rfl (Nat.le_of_ble_eq_true rfl) dX10_built_134 ⟨Nat.zero_le _, Nat.zero_le _⟩ (fun H locs hH => ?_)
            cases h
            exact e_int X hH rfl dX10_built_137
  · replace h := if_t h hc
    refine lv_iconst (v := (-1)) hx hb dX10_built_50 (by decide) ?_
    cases h
    exact e_int X hH rfl dX10_built_51
/-- CutoffMill$Works.isFaulty(I)Z -/
def m_X9_isFaulty (σ : Sg) (i0 : Nat) (x1 : Int32) : Option Int32 := bnd (m_X9_stateOf σ i0 x1) (fun r102 => chk (decide (r102 < 30)) (bnd (m_X8_isDeclared σ (r102 + 2) x1) (fun r105 => if r105 = 0 then some 0 else chk (inb x1 128) (if (σ.1 31 r102 x1.toNatClampNeg) = 0 then some 0 else some 1))))
set_option maxHeartbeats 4000000 in
set_option maxRecDepth 100000 in
theorem c_X9_isFaulty (l : Launch) {Γ : GG} (hJ : IJ Γ) (σ : Sg) (i0 : Nat) (hi0 : i0 < 2) (x1 : Int32) (rf : Int32) (h : m_X9_isFaulty σ i0 x1 = some rf) : CI l yX9_isFaulty (wy yX9_isFaulty cX9_isFaulty 3 (some .boolean)) { frames := 1, cells := 0, slots := 0, locals := 21 } Γ σ [.ref (adr Γ (kW i0)), .int x1] σ rf := by
  refine met_of (by decide +kernel) hJ (Nat.le_of_ble_eq_true rfl) (fun p e s m below meth c ls X hH hl => ?_)
  have hl : lv_has ls 3 [(0, .ref (adr Γ (kW i0))), (1, .int x1)] := hl
  have hx := X.1.1
  have hb := X.1.2.1
  rw [m_X9_isFaulty] at h
  refine lv_aload_n hx hb dX9_isFaulty_0 rfl (lv_at hl 0 rfl) ?_
  refine lv_iload_n hx hb dX9_isFaulty_1 rfl (lv_at hl 1 rfl) ?_
  obtain ⟨r102, hq101, h⟩ := bnd_some h
  obtain ⟨hr102, h⟩ := chk_some h
  replace hr102 := of_decide_eq_true hr102
  refine r_callVR X.1 hl hH (As := [.int x1]) (rest := []) (c_X9_stateOf l X.1.2.2.2.2.2.2.1 σ i0 hi0 x1 _ hq101) (cw_V X.1 1 mw_569 mw_566 mw_567 mw_568 mw_24 rfl rfl (by decide +kernel) ⟨Nat.le_of_ble_eq_true rfl, Nat.le_of_ble_eq_true rfl⟩) (r_recv X.1 hH (kW_lt hi0) (dW0 _ hi0) rfl) rfl rfl (Nat.le_of_ble_eq_true rfl) dX9_isFaulty_2 ⟨Nat.zero_le _, Nat.zero_le _⟩ (fun H locs hH => ?_)
  refine lv_astore_n (lv' := [(2, .ref (adr Γ (kR r102))), (0, .ref (adr Γ (kW i0))), (1, .int x1)]) hx hb dX9_isFaulty_5 rfl hl (by decide) rfl (fun ls hl => ?_)
  refine lv_aload_n hx hb dX9_isFaulty_6 rfl (lv_at hl 0 rfl) ?_
  refine r_get X.1 hH (kR_lt hr102) (dR0 _ hr102) rfl inlX5 1 (by decide) (v := .ref (adr Γ (kT (r102 + 2)))) rfl mw_313 dX9_isFaulty_7 ?_
  refine lv_iload_n hx hb dX9_isFaulty_10 rfl (lv_at hl 2 rfl) ?_
  obtain ⟨r105, hq104, h⟩ := bnd_some h
  refine r_callVI X.1 hl hH (As := [.int x1]) (rest := []) (c_X8_isDeclared l X.1.2.2.2.2.2.2.1 σ (r102 + 2) (by omega) x1 _ hq104) (cw_V X.1 1 mw_193 mw_570 mw_191 mw_192 mw_12 rfl rfl (by decide +kernel) ⟨Nat.le_of_ble_eq_true rfl, Nat.le_of_ble_eq_true rfl⟩) (r_recv X.1 hH (kT_lt (by omega)) (dT0 _ (by omega)) rfl) rfl rfl (Nat.le_of_ble_eq_true rfl) dX9_isFaulty_11 ⟨Nat.zero_le _, Nat.zero_le _⟩ (fun H locs hH => ?_)
  refine lv_if_eq (tgt := 30) hx hb dX9_isFaulty_14 (by decide) (fun hc => ?_) (fun hc => ?_)
  · replace h := if_t h hc
    refine lv_iconst (v := 0) hx hb dX9_isFaulty_30 (by decide) ?_
    cases h
    exact e_int X hH rfl dX9_isFaulty_31
  · replace h := if_f h hc
    refine lv_aload_n hx hb dX9_isFaulty_17 rfl (lv_at hl 0 rfl) ?_
    refine r_get X.1 hH (kR_lt hr102) (dR0 _ hr102) rfl inlX5 4 (by decide) (v := .ref (adr Γ (kR r102 + 3))) rfl mw_565 dX9_isFaulty_18 ?_
    refine lv_iload_n hx hb dX9_isFaulty_21 rfl (lv_at hl 2 rfl) ?_
    obtain ⟨hg107, h⟩ := chk_some h
    refine r_ild X.1 hH (lR _ hr102 3 (by decide)) (dR3 _ hr102) hg107 dX9_isFaulty_22 ?_
    refine lv_if_eq (tgt := 30) hx hb dX9_isFaulty_23 (by decide) (fun hc => ?_) (fun hc => ?_)
    · replace h := if_t h hc
      refine lv_iconst (v := 0) hx hb dX9_isFaulty_30 (by decide) ?_
      cases h
      exact e_int X hH rfl dX9_isFaulty_31
    · replace h := if_f h hc
      refine lv_iconst (v := 1) hx hb dX9_isFaulty_26 (by decide) ?_
      refine lv_goto (tgt := 31) hx hb dX9_isFaulty_27 (by decide) ?_
      cases h
      exact e_int X hH rfl dX9_isFaulty_31
def m_X10_slotOfFault_4 (σ : Sg) (x1 : Int32)  : Nat → Int32 → Int32 → Option Int32
  | 0, _, _ => none
  | n + 1, x2, x3 => if 128 ≤ x3 then some ((-1)) else bnd (m_X9_isFaulty σ 0 x3) (fun r102 => if r102 = 0 then m_X10_slotOfFault_4 σ x1 n x2 (x3 + 1) else if x2 = x1 then some x3 else m_X10_slotOfFault_4 σ x1 n (x2 + 1) (x3 + 1))
set_option maxHeartbeats 4000000 in
set_option maxRecDepth 100000 in
theorem b_X10_slotOfFault_4 {p : Program} {l : Launch} {e : Env} {s : State} {m : MethodId} {args : Array Value} {below : List Frame} {meth : Method} {c : Code} {Γ : GG} (X : MB Γ p s m args meth c cX10_slotOfFault 4 RX10 (some .int)) (σ : Sg) {rf : Int32} (x1 : Int32) : ∀ (n : Nat), (∀ (x2 : Int32) (x3 : Int32), (m_X10_slotOfFault_4 σ x1 n) x2 x3 = some rf → ∀ (H : Heap) (locs : List Loc) (ls : Array Slot), HW (IA Γ) Γ σ s.heap H locs → lv_has ls 4 [(0, .ref (adr Γ 0)), (1, .int x1), (2, .int x2), (3, .int x3)] → W p l e ({ frames := 2, cells := 0, slots := 0, locals := 43 } : Room) s m args below meth c H locs 0 0 (QI Γ σ rf below args s) (F0 m 4 ls [])) := by
  have hx := X.1.1
  have hb := X.1.2.1
  intro n
  induction n with
  | zero => intro x2 x3 h; rw [m_X10_slotOfFault_4] at h; cases h
  | succ n ih =>
    intro x2 x3 h H locs ls hH hl
    rw [m_X10_slotOfFault_4] at h
    refine lv_iload_n hx hb dX10_slotOfFault_4 rfl (lv_at hl 3 rfl) ?_
    refine lv_sipush (v := 128) hx hb dX10_slotOfFault_5 (by decide) ?_
    refine lv_icmp_ge (tgt := 38) hx hb dX10_slotOfFault_8 (by decide) (fun hc => ?_) (fun hc => ?_)
    · replace h := if_t h hc
      refine lv_iconst (v := (-1)) hx hb dX10_slotOfFault_38 (by decide) ?_
      cases h
      exact e_int X hH rfl dX10_slotOfFault_39
    · replace h := if_f h hc
      refine lv_aload_n hx hb dX10_slotOfFault_11 rfl (lv_at hl 0 rfl) ?_
      refine r_get X.1 hH (by decide) rfl rfl inlX10 3 (by decide) (v := .ref (adr Γ (kW 0))) rfl mw_25 dX10_slotOfFault_12 ?_
      refine lv_iload_n hx hb dX10_slotOfFault_15 rfl (lv_at hl 3 rfl) ?_
      obtain ⟨r102, hq101, h⟩ := bnd_some h
      refine r_callVI X.1 hl hH (As := [.int x3]) (rest := []) (c_X9_isFaulty l X.1.2.2.2.2.2.2.1 σ 0 (by omega) x3 _ hq101) (cw_V X.1 1 mw_564 mw_632 mw_562 mw_563 mw_24 rfl rfl (by decide +kernel) ⟨Nat.le_of_ble_eq_true rfl, Nat.le_of_ble_eq_true rfl⟩) (r_recv X.1 hH (kW_lt (by omega)) (dW0 _ (by omega)) rfl) rfl rfl (Nat.le_of_ble_eq_true rfl) dX10_slotOfFault_16 ⟨Nat.zero_le _, Nat.zero_le _⟩ (fun H locs hH => ?_)
      refine lv_if_eq (tgt := 32) hx hb dX10_slotOfFault_19 (by decide) (fun hc => ?_) (fun hc => ?_)
      · replace h := if_t h hc
        refine lv_iinc (v := x3 + 1) (lv' := [(3, .int (x3 + 1)), (0, .ref (adr Γ 0)), (1, .int x1), (2, .int x2)]) hx hb dX10_slotOfFault_32 hl (k := 3) rfl rfl (by decide) rfl (fun ls hl => ?_)
        refine lv_goto (tgt := 4) hx hb dX10_slotOfFault_35 (by decide) ?_
        exact ih  x2 (x3 + 1) h _ _ _ hH (lv_sub hl [1, 2, 3, 0] rfl)
      · replace h := if_f h hc
        refine lv_iload_n hx hb dX10_slotOfFault_22 rfl (lv_at hl 2 rfl) ?_
        refine lv_iload_n hx hb dX10_slotOfFault_23 rfl (lv_at hl 1 rfl) ?_
        refine lv_icmp_ne (tgt := 29) hx hb dX10_slotOfFault_24 (by decide) (fun hc => ?_) (fun hc => ?_)
        · replace h := if_f h hc
          refine lv_iinc (v := x2 + 1) (lv' := [(2, .int (x2 + 1)), (0, .ref (adr Γ 0)), (1, .int x1), (3, .int x3)]) hx hb dX10_slotOfFault_29 hl (k := 2) rfl rfl (by decide) rfl (fun ls hl => ?_)
          refine lv_iinc (v := x3 + 1) (lv' := [(3, .int (x3 + 1)), (2, .int (x2 + 1)), (0, .ref (adr Γ 0)), (1, .int x1)]) hx hb dX10_slotOfFault_32 hl (k := 3) rfl rfl (by decide) rfl (fun ls hl => ?_)
          refine lv_goto (tgt := 4) hx hb dX10_slotOfFault_35 (by decide) ?_
          exact ih  (x2 + 1) (x3 + 1) h _ _ _ hH (lv_sub hl [2, 3, 1, 0] rfl)
        · replace h := if_t h hc
          refine lv_iload_n hx hb dX10_slotOfFault_27 rfl (lv_at hl 3 rfl) ?_
          cases h
          exact e_int X hH rfl dX10_slotOfFault_28
/-- CutoffMill.slotOfFault(I)I -/
def m_X10_slotOfFault (σ : Sg) (x1 : Int32) : Option Int32 := m_X10_slotOfFault_4 σ x1 1000 0 0
set_option maxHeartbeats 4000000 in
set_option maxRecDepth 100000 in
theorem c_X10_slotOfFault (l : Launch) {Γ : GG} (hJ : IJ Γ) (σ : Sg) (x1 : Int32) (rf : Int32) (h : m_X10_slotOfFault σ x1 = some rf) : CI l yX10_slotOfFault (wy yX10_slotOfFault cX10_slotOfFault 4 (some .int)) { frames := 2, cells := 0, slots := 0, locals := 43 } Γ σ [.ref (adr Γ 0), .int x1] σ rf := by
  refine met_of (by decide +kernel) hJ (Nat.le_of_ble_eq_true rfl) (fun p e s m below meth c ls X hH hl => ?_)
  have hl : lv_has ls 4 [(0, .ref (adr Γ 0)), (1, .int x1)] := hl
  have hx := X.1.1
  have hb := X.1.2.1
  rw [m_X10_slotOfFault] at h
  refine lv_iconst (v := 0) hx hb dX10_slotOfFault_0 (by decide) ?_
  refine lv_istore_n (lv' := [(2, .int 0), (0, .ref (adr Γ 0)), (1, .int x1)]) hx hb dX10_slotOfFault_1 rfl hl (by decide) rfl (fun ls hl => ?_)
  refine lv_iconst (v := 0) hx hb dX10_slotOfFault_2 (by decide) ?_
  refine lv_istore_n (lv' := [(3, .int 0), (2, .int 0), (0, .ref (adr Γ 0)), (1, .int x1)]) hx hb dX10_slotOfFault_3 rfl hl (by decide) rfl (fun ls hl => ?_)
  exact b_X10_slotOfFault_4 X σ x1  1000  0 0 h _ _ _ hH (lv_sub hl [2, 3, 1, 0] rfl)
/-- CutoffMill.fault(II)I -/
def m_X10_fault (σ : Sg) (x1 : Int32) (x2 : Int32) : Option Int32 := bnd (m_X10_slotOfFault σ x1) (fun r102 => if r102 = ((-1)) then none else bnd (m_X10_checkWithin σ x2 0 2) (fun _ => if x2 = 0 then bnd (m_X9_stateOf σ 0 r102) (fun r111 => chk (decide (r111 < 30)) (chk (inb r102 128) (some (σ.1 31 r111 r102.toNatClampNeg)))) else bnd (m_X10_partOf σ r102 (x2 - (1 : Int32))) (fun r108 => some r108)))
set_option maxHeartbeats 4000000 in
set_option maxRecDepth 100000 in
theorem c_X10_fault (l : Launch) {Γ : GG} (hJ : IJ Γ) (σ : Sg) (x1 : Int32) (x2 : Int32) (rf : Int32) (h : m_X10_fault σ x1 x2 = some rf) : CI l yX10_fault (wy yX10_fault cX10_fault 4 (some .int)) { frames := 3, cells := 0, slots := 0, locals := 66 } Γ σ [.ref (adr Γ 0), .int x1, .int x2] σ rf := by
  refine met_of (by decide +kernel) hJ (Nat.le_of_ble_eq_true rfl) (fun p e s m below meth c ls X hH hl => ?_)
  have hl : lv_has ls 4 [(0, .ref (adr Γ 0)), (1, .int x1), (2, .int x2)] := hl
  have hx := X.1.1
  have hb := X.1.2.1
  rw [m_X10_fault] at h
  refine lv_aload_n hx hb dX10_fault_0 rfl (lv_at hl 0 rfl) ?_
  refine lv_iload_n hx hb dX10_fault_1 rfl (lv_at hl 1 rfl) ?_
  obtain ⟨r102, hq101, h⟩ := bnd_some h
  refine r_callVI X.1 hl hH (As := [.int x1]) (rest := []) (c_X10_slotOfFault l X.1.2.2.2.2.2.2.1 σ x1 _ hq101) (cw_V X.1 1 mw_631 mw_628 mw_629 mw_630 mw_2 rfl rfl (by decide +kernel) ⟨Nat.le_of_ble_eq_true rfl, Nat.le_of_ble_eq_true rfl⟩) (r_recv X.1 hH (by decide) rfl rfl) rfl rfl (Nat.le_of_ble_eq_true rfl) dX10_fault_2 ⟨Nat.zero_le _, Nat.zero_le _⟩ (fun H locs hH => ?_)
  refine lv_istore_n (lv' := [(3, .int r102), (0, .ref (adr Γ 0)), (1, .int x1), (2, .int x2)]) hx hb dX10_fault_5 rfl hl (by decide) rfl (fun ls hl => ?_)
  refine lv_iload_n hx hb dX10_fault_6 rfl (lv_at hl 0 rfl) ?_
  refine lv_iconst (v := (-1)) hx hb dX10_fault_7 (by decide) ?_
  refine lv_icmp_ne (tgt := 21) hx hb dX10_fault_8 (by decide) (fun hc => ?_) (fun hc => ?_)
  · replace h := if_f h hc
    refine lv_iload_n hx hb dX10_fault_21 rfl (lv_at hl 3 rfl) ?_
    refine lv_iconst (v := 0) hx hb dX10_fault_22 (by decide) ?_
    refine lv_iconst (v := 2) hx hb dX10_fault_23 (by decide) ?_
    obtain ⟨_, hq104, h⟩ := bnd_some h
    refine r_callSV X.1 hl hH (r := ()) (As := [.int x2, .int 0, .int 2]) (rest := []) (c_X10_checkWithin l X.1.2.2.2.2.2.2.1 σ x2 0 2 () hq104) (cw_S X.1 3 mw_268 mw_266 mw_267 mw_2 rfl rfl (by decide +kernel) ⟨Nat.le_of_ble_eq_true rfl, Nat.le_of_ble_eq_true rfl⟩) rfl rfl (Nat.le_of_ble_eq_true rfl) dX10_fault_24 ⟨Nat.zero_le _, Nat.zero_le _⟩ (fun H locs hH => ?_)
    refine lv_iload_n hx hb dX10_fault_27 rfl (lv_at hl 3 rfl) ?_
    refine lv_if_ne (tgt := 47) hx hb dX10_fault_28 (by decide) (fun hc => ?_) (fun hc => ?_)
    · replace h := if_f h hc
      refine lv_iload_n hx hb dX10_fault_47 rfl (lv_at hl 0 rfl) ?_
      refine lv_iload_n hx hb dX10_fault_48 rfl (lv_at hl 3 rfl) ?_
      refine lv_iconst (v := 1) hx hb dX10_fault_49 (by decide) ?_
      refine lv_isub hx hb dX10_fault_50 ?_
      obtain ⟨r108, hq107, h⟩ := bnd_some h
      refine r_callSI X.1 hl hH (As := [.int r102, .int (x2 - (1 : Int32))]) (rest := []) (c_X10_partOf l X.1.2.2.2.2.2.2.1 σ r102 (x2 - (1 : Int32)) _ hq107) (cw_S X.1 2 mw_609 mw_607 mw_608 mw_2 rfl rfl (by decide +kernel) ⟨Nat.le_of_ble_eq_true rfl, Nat.le_of_ble_eq_true rfl⟩) rfl rfl (Nat.le_of_ble_eq_true rfl) dX10_fault_51 ⟨Nat.zero_le _, Nat.zero_le _⟩ (fun H locs hH => ?_)
      cases h
      exact e_int X hH rfl dX10_fault_54
    · replace h := if_t h hc
      refine lv_aload_n hx hb dX10_fault_31 rfl (lv_at hl 1 rfl) ?_
      refine r_get X.1 hH (by decide) rfl rfl inlX10 3 (by decide) (v := .ref (adr Γ (kW 0))) rfl mw_25 dX10_fault_32 ?_
      refine lv_iload_n hx hb dX10_fault_35 rfl (lv_at hl 0 rfl) ?_
      obtain ⟨r111, hq110, h⟩ := bnd_some h
      obtain ⟨hr111, h⟩ := chk_some h
      replace hr111 := of_decide_eq_true hr111
      refine r_callVR X.1 hl hH (As := [.int r102]) (rest := []) (c_X9_stateOf l X.1.2.2.2.2.2.2.1 σ 0 (by omega) r102 _ hq110) (cw_V X.1 1 mw_569 mw_599 mw_567 mw_568 mw_24 rfl rfl (by decide +kernel) ⟨Nat.le_of_ble_eq_true rfl, Nat.le_of_ble_eq_true rfl⟩) (r_recv X.1 hH (kW_lt (by omega)) (dW0 _ (by omega)) rfl) rfl rfl (Nat.le_of_ble_eq_true rfl) dX10_fault_36 ⟨Nat.zero_le _, Nat.zero_le _⟩ (fun H locs hH => ?_)
      refine r_get X.1 hH (kR_lt hr111) (dR0 _ hr111) rfl inlX5 4 (by decide) (v := .ref (adr Γ (kR r111 + 3))) rfl mw_595 dX10_fault_39 ?_
      refine lv_iload_n hx hb dX10_fault_42 rfl (lv_at hl 0 rfl) ?_
      obtain ⟨hg113, h⟩ := chk_some h
      refine r_ild X.1 hH (lR _ hr111 3 (by decide)) (dR3 _ hr111) hg113 dX10_fault_43 ?_
      refine lv_goto (tgt := 54) hx hb dX10_fault_44 (by decide) ?_
      cases h
      exact e_int X hH rfl dX10_fault_54
  · replace h := if_t h hc
    cases h
/-- CutoffMill.openCall(III)I -/
def m_X10_openCall (σ : Sg) (x1 : Int32) (x2 : Int32) (x3 : Int32) : Option (Sg × Int32) := if x2 = ((-1)) then some (σ, x1) else if x1 < 800 then chk (inb x1 800) (st (wI σ 0 0 x1.toNatClampNeg ((x3 * (128 : Int32)) + x2)) (fun σ102 => some (σ102, x1 + (1 : Int32)))) else some (σ, x1)
set_option maxHeartbeats 4000000 in
set_option maxRecDepth 100000 in
theorem c_X10_openCall (l : Launch) {Γ : GG} (hJ : IJ Γ) (σ : Sg) (x1 : Int32) (x2 : Int32) (x3 : Int32) (σf : Sg) (rf : Int32) (h : m_X10_openCall σ x1 x2 x3 = some (σf, rf)) : CI l yX10_openCall (wy yX10_openCall cX10_openCall 4 (some .int)) { frames := 0, cells := 0, slots := 0, locals := 0 } Γ σ [.ref (adr Γ 0), .int x1, .int x2, .int x3] σf rf := by
  refine met_of (by decide +kernel) hJ (Nat.le_of_ble_eq_true rfl) (fun p e s m below meth c ls X hH hl => ?_)
  have hl : lv_has ls 4 [(0, .ref (adr Γ 0)), (1, .int x1), (2, .int x2), (3, .int x3)] := hl
  have hx := X.1.1
  have hb := X.1.2.1
  rw [m_X10_openCall] at h
  refine lv_iload_n hx hb dX10_openCall_0 rfl (lv_at hl 2 rfl) ?_
  refine lv_iconst (v := (-1)) hx hb dX10_openCall_1 (by decide) ?_
  refine lv_icmp_eq (tgt := 14) hx hb dX10_openCall_2 (by decide) (fun hc => ?_) (fun hc => ?_)
  · replace h := if_t h hc
    refine lv_iload_n hx hb dX10_openCall_14 rfl (lv_at hl 1 rfl) ?_
    cases h
    exact e_int X hH rfl dX10_openCall_15
  · replace h := if_f h hc
    refine lv_iload_n hx hb dX10_openCall_5 rfl (lv_at hl 1 rfl) ?_
    refine lv_aload_n hx hb dX10_openCall_6 rfl (lv_at hl 0 rfl) ?_
    refine r_get X.1 hH (by decide) rfl rfl inlX10 5 (by decide) (v := .ref (adr Γ 1)) rfl mw_27 dX10_openCall_7 ?_
    refine r_len X.1 hH (v := 800) (by decide) rfl (by decide) rfl dX10_openCall_10 ?_
    refine lv_icmp_lt (tgt := 16) hx hb dX10_openCall_11 (by decide) (fun hc => ?_) (fun hc => ?_)
    · replace h := if_t h hc
      refine lv_aload_n hx hb dX10_openCall_16 rfl (lv_at hl 0 rfl) ?_
      refine r_get X.1 hH (by decide) rfl rfl inlX10 5 (by decide) (v := .ref (adr Γ 1)) rfl mw_27 dX10_openCall_17 ?_
      refine lv_iload_n hx hb dX10_openCall_20 rfl (lv_at hl 1 rfl) ?_
      refine lv_iload_n hx hb dX10_openCall_21 rfl (lv_at hl 3 rfl) ?_
      refine lv_sipush (v := 128) hx hb dX10_openCall_22 (by decide) ?_
      refine lv_imul hx hb dX10_openCall_25 ?_
      refine lv_iload_n hx hb dX10_openCall_26 rfl (lv_at hl 2 rfl) ?_
      refine lv_iadd hx hb dX10_openCall_27 ?_
      obtain ⟨hg101, h⟩ := chk_some h
      obtain ⟨σ102, e103, h⟩ := st_some h
      refine r_ist X.1 hH (by decide) rfl hg101 dX10_openCall_28 (fun H locs hH => ?_)
      replace hH : HW (IA Γ) Γ σ102 s.heap H locs := by rw [e103]; exact hH
      refine lv_iload_n hx hb dX10_openCall_29 rfl (lv_at hl 1 rfl) ?_
      refine lv_iconst (v := 1) hx hb dX10_openCall_30 (by decide) ?_
      refine lv_iadd hx hb dX10_openCall_31 ?_
      cases h
      exact e_int X hH rfl dX10_openCall_32
    · replace h := if_f h hc
      refine lv_iload_n hx hb dX10_openCall_14 rfl (lv_at hl 1 rfl) ?_
      cases h
      exact e_int X hH rfl dX10_openCall_15
def m_X10_valueOf_14 (x1 : Int32)  : Nat → Sg → Int32 → Int32 → Int32 → Option (Sg × Int32)
  | 0, _, _, _, _ => none
  | n + 1, σ, x2, x3, x4 => if 400 < x4 then if x3 ≤ 0 then some (σ, x2) else some (σ, (-1000000)) else if x3 ≤ 0 then if x3 ≤ 0 then some (σ, x2) else some (σ, (-1000000)) else chk (inb (x3 + (-1)) 800) (chk (inb (x3 + (-1)) 800) (bnd (m_X9_stateOf σ 0 ((σ.1 0 0 (x3 + (-1)).toNatClampNeg) - (σ.1 0 0 (x3 + (-1)).toNatClampNeg) / (128 : Int32) * (128 : Int32))) (fun r107 => chk (decide (r107 < 30)) (if 30 < ((σ.1 0 0 (x3 + (-1)).toNatClampNeg) / (128 : Int32)) then some (σ, (-1000000)) else chk (inb ((σ.1 0 0 (x3 + (-1)).toNatClampNeg) - (σ.1 0 0 (x3 + (-1)).toNatClampNeg) / (128 : Int32) * (128 : Int32)) 128) (if (σ.1 31 r107 ((σ.1 0 0 (x3 + (-1)).toNatClampNeg) - (σ.1 0 0 (x3 + (-1)).toNatClampNeg) / (128 : Int32) * (128 : Int32)).toNatClampNeg) = 0 then chk (inb ((σ.1 0 0 (x3 + (-1)).toNatClampNeg) - (σ.1 0 0 (x3 + (-1)).toNatClampNeg) / (128 : Int32) * (128 : Int32)) 128) (chk (inb ((σ.1 0 0 (x3 + (-1)).toNatClampNeg) - (σ.1 0 0 (x3 + (-1)).toNatClampNeg) / (128 : Int32) * (128 : Int32)) 128) (bnd2 (m_X10_openCall σ (x3 + (-1)) (σ.1 36 r107 ((σ.1 0 0 (x3 + (-1)).toNatClampNeg) - (σ.1 0 0 (x3 + (-1)).toNatClampNeg) / (128 : Int32) * (128 : Int32)).toNatClampNeg) (((σ.1 0 0 (x3 + (-1)).toNatClampNeg) / (128 : Int32)) + (1 : Int32))) (fun σ114 r113 => chk (inb ((σ.1 0 0 (x3 + (-1)).toNatClampNeg) - (σ.1 0 0 (x3 + (-1)).toNatClampNeg) / (128 : Int32) * (128 : Int32)) 128) (bnd2 (m_X10_openCall σ114 r113 (σ114.1 35 r107 ((σ.1 0 0 (x3 + (-1)).toNatClampNeg) - (σ.1 0 0 (x3 + (-1)).toNatClampNeg) / (128 : Int32) * (128 : Int32)).toNatClampNeg) (((σ.1 0 0 (x3 + (-1)).toNatClampNeg) / (128 : Int32)) + (1 : Int32))) (fun σ118 r117 => m_X10_valueOf_14 x1 n σ118 (x2 + (σ.1 34 r107 ((σ.1 0 0 (x3 + (-1)).toNatClampNeg) - (σ.1 0 0 (x3 + (-1)).toNatClampNeg) / (128 : Int32) * (128 : Int32)).toNatClampNeg)) r117 (x4 + 1)))))) else some (σ, (-1000000)))))))
set_option maxHeartbeats 4000000 in
set_option maxRecDepth 100000 in
theorem b_X10_valueOf_14 {p : Program} {l : Launch} {e : Env} {s : State} {m : MethodId} {args : Array Value} {below : List Frame} {meth : Method} {c : Code} {Γ : GG} (X : MB Γ p s m args meth c cX10_valueOf 8 RX10 (some .int)) {σf : Sg} {rf : Int32} (x1 : Int32) : ∀ (n : Nat), (∀ (σ : Sg) (x2 : Int32) (x3 : Int32) (x4 : Int32), (m_X10_valueOf_14 x1 n) σ x2 x3 x4 = some (σf, rf) → ∀ (H : Heap) (locs : List Loc) (ls : Array Slot), HW (IA Γ) Γ σ s.heap H locs → lv_has ls 8 [(0, .ref (adr Γ 0)), (2, .int x2), (3, .int x3), (4, .int x4)] → W p l e ({ frames := 1, cells := 0, slots := 0, locals := 23 } : Room) s m args below meth c H locs 0 0 (QI Γ σf rf below args s) (F0 m 14 ls [])) := by
  have hx := X.1.1
  have hb := X.1.2.1
  intro n
  induction n with
  | zero => intro σ x2 x3 x4 h; rw [m_X10_valueOf_14] at h; cases h
  | succ n ih =>
    intro σ x2 x3 x4 h H locs ls hH hl
    rw [m_X10_valueOf_14] at h
    refine lv_iload hx hb dX10_valueOf_14 (lv_at hl 3 rfl) ?_
    refine lv_sipush (v := 400) hx hb dX10_valueOf_16 (by decide) ?_
    refine lv_icmp_gt (tgt := 139) hx hb dX10_valueOf_19 (by decide) (fun hc => ?_) (fun hc => ?_)
    · replace h := if_t h hc
      refine lv_iload_n hx hb dX10_valueOf_139 rfl (lv_at hl 2 rfl) ?_
      refine lv_if_le (tgt := 149) hx hb dX10_valueOf_140 (by decide) (fun hc => ?_) (fun hc => ?_)
      · replace h := if_t h hc
        refine lv_iload_n hx hb dX10_valueOf_149 rfl (lv_at hl 1 rfl) ?_
        cases h
        exact e_int X hH rfl dX10_valueOf_150
      · replace h := if_f h hc
        refine lv_ldcw (v := (-1000000)) hx hb X.1.2.2.2.1 (X.1.hts _ mw_618) dX10_valueOf_143 ?_
        refine lv_goto (tgt := 150) hx hb dX10_valueOf_146 (by decide) ?_
        cases h
        exact e_int X hH rfl dX10_valueOf_150
    · replace h := if_f h hc
      refine lv_iload_n hx hb dX10_valueOf_22 rfl (lv_at hl 2 rfl) ?_
      refine lv_if_le (tgt := 139) hx hb dX10_valueOf_23 (by decide) (fun hc => ?_) (fun hc => ?_)
      · replace h := if_t h hc
        refine lv_iload_n hx hb dX10_valueOf_139 rfl (lv_at hl 2 rfl) ?_
        refine lv_if_le (tgt := 149) hx hb dX10_valueOf_140 (by decide) (fun hc => ?_) (fun hc => ?_)
        · replace h := if_t h hc
          refine lv_iload_n hx hb dX10_valueOf_149 rfl (lv_at hl 1 rfl) ?_
          cases h
          exact e_int X hH rfl dX10_valueOf_150
        · replace h := if_f h hc
          refine lv_ldcw (v := (-1000000)) hx hb X.1.2.2.2.1 (X.1.hts _ mw_618) dX10_valueOf_143 ?_
          refine lv_goto (tgt := 150) hx hb dX10_valueOf_146 (by decide) ?_
          cases h
          exact e_int X hH rfl dX10_valueOf_150
      · replace h := if_f h hc
        refine lv_iinc (v := x3 + (-1)) (lv' := [(3, .int (x3 + (-1))), (0, .ref (adr Γ 0)), (2, .int x2), (4, .int x4)]) hx hb dX10_valueOf_26 hl (k := 2) rfl rfl (by decide) rfl (fun ls hl => ?_)
        refine lv_aload_n hx hb dX10_valueOf_29 rfl (lv_at hl 1 rfl) ?_
        refine r_get X.1 hH (by decide) rfl rfl inlX10 5 (by decide) (v := .ref (adr Γ 1)) rfl mw_27 dX10_valueOf_30 ?_
        refine lv_iload_n hx hb dX10_valueOf_33 rfl (lv_at hl 0 rfl) ?_
        obtain ⟨hg104, h⟩ := chk_some h
        refine r_ild X.1 hH (by decide) rfl hg104 dX10_valueOf_34 ?_
        refine lv_sipush (v := 128) hx hb dX10_valueOf_35 (by decide) ?_
        refine lv_idiv hx hb dX10_valueOf_38 (by decide) ?_
        refine lv_istore (lv' := [(5, .int ((σ.1 0 0 (x3 + (-1)).toNatClampNeg) / (128 : Int32))), (3, .int (x3 + (-1))), (0, .ref (adr Γ 0)), (2, .int x2), (4, .int x4)]) hx hb dX10_valueOf_39 hl (by decide) rfl (fun ls hl => ?_)
        refine lv_aload_n hx hb dX10_valueOf_41 rfl (lv_at hl 2 rfl) ?_
        refine r_get X.1 hH (by decide) rfl rfl inlX10 5 (by decide) (v := .ref (adr Γ 1)) rfl mw_27 dX10_valueOf_42 ?_
        refine lv_iload_n hx hb dX10_valueOf_45 rfl (lv_at hl 1 rfl) ?_
        obtain ⟨hg105, h⟩ := chk_some h
        refine r_ild X.1 hH (by decide) rfl hg105 dX10_valueOf_46 ?_
        refine lv_sipush (v := 128) hx hb dX10_valueOf_47 (by decide) ?_
        refine lv_irem hx hb dX10_valueOf_50 (by decide) ?_
        refine lv_istore (lv' := [(6, .int ((σ.1 0 0 (x3 + (-1)).toNatClampNeg) - (σ.1 0 0 (x3 + (-1)).toNatClampNeg) / (128 : Int32) * (128 : Int32))), (5, .int ((σ.1 0 0 (x3 + (-1)).toNatClampNeg) / (128 : Int32))), (3, .int (x3 + (-1))), (0, .ref (adr Γ 0)), (2, .int x2), (4, .int x4)]) hx hb dX10_valueOf_51 hl (by decide) rfl (fun ls hl => ?_)
        refine lv_aload_n hx hb dX10_valueOf_53 rfl (lv_at hl 3 rfl) ?_
        refine r_get X.1 hH (by decide) rfl rfl inlX10 3 (by decide) (v := .ref (adr Γ (kW 0))) rfl mw_25 dX10_valueOf_54 ?_
        refine lv_iload hx hb dX10_valueOf_57 (lv_at hl 0 rfl) ?_
        obtain ⟨r107, hq106, h⟩ := bnd_some h
        obtain ⟨hr107, h⟩ := chk_some h
        replace hr107 := of_decide_eq_true hr107
        refine r_callVR X.1 hl hH (As := [.int ((σ.1 0 0 (x3 + (-1)).toNatClampNeg) - (σ.1 0 0 (x3 + (-1)).toNatClampNeg) / (128 : Int32) * (128 : Int32))]) (rest := []) (c_X9_stateOf l X.1.2.2.2.2.2.2.1 σ 0 (by omega) ((σ.1 0 0 (x3 + (-1)).toNatClampNeg) - (σ.1 0 0 (x3 + (-1)).toNatClampNeg) / (128 : Int32) * (128 : Int32)) _ hq106) (cw_V X.1 1 mw_569 mw_599 mw_567 mw_568 mw_24 rfl rfl (by decide +kernel) ⟨Nat.le_of_ble_eq_true rfl, Nat.le_of_ble_eq_true rfl⟩) (r_recv X.1 hH (kW_lt (by omega)) (dW0 _ (by omega)) rfl) rfl rfl (Nat.le_of_ble_eq_true rfl) dX10_valueOf_59 ⟨Nat.zero_le _, Nat.zero_le _⟩ (fun H locs hH => ?_)
        refine lv_astore (lv' := [(7, .ref (adr Γ (kR r107))), (6, .int ((σ.1 0 0 (x3 + (-1)).toNatClampNeg) - (σ.1 0 0 (x3 + (-1)).toNatClampNeg) / (128 : Int32) * (128 : Int32))), (5, .int ((σ.1 0 0 (x3 + (-1)).toNatClampNeg) / (128 : Int32))), (3, .int (x3 + (-1))), (0, .ref (adr Γ 0)), (2, .int x2), (4, .int x4)]) hx hb dX10_valueOf_62 hl (by decide) rfl (fun ls hl => ?_)
        refine lv_iload hx hb dX10_valueOf_64 (lv_at hl 2 rfl) ?_
        refine lv_bipush (v := 30) hx hb dX10_valueOf_66 (by decide) ?_
        refine lv_icmp_gt (tgt := 82) hx hb dX10_valueOf_68 (by decide) (fun hc => ?_) (fun hc => ?_)
        · replace h := if_t h hc
          refine lv_ldcw (v := (-1000000)) hx hb X.1.2.2.2.1 (X.1.hts _ mw_618) dX10_valueOf_82 ?_
          cases h
          exact e_int X hH rfl dX10_valueOf_85
        · replace h := if_f h hc
          refine lv_aload hx hb dX10_valueOf_71 (lv_at hl 0 rfl) ?_
          refine r_get X.1 hH (kR_lt hr107) (dR0 _ hr107) rfl inlX5 4 (by decide) (v := .ref (adr Γ (kR r107 + 3))) rfl mw_595 dX10_valueOf_73 ?_
          refine lv_iload hx hb dX10_valueOf_76 (lv_at hl 1 rfl) ?_
          obtain ⟨hg109, h⟩ := chk_some h
          refine r_ild X.1 hH (lR _ hr107 3 (by decide)) (dR3 _ hr107) hg109 dX10_valueOf_78 ?_
          refine lv_if_eq (tgt := 86) hx hb dX10_valueOf_79 (by decide) (fun hc => ?_) (fun hc => ?_)
          · replace h := if_t h hc
            refine lv_iload_n hx hb dX10_valueOf_86 rfl (lv_at hl 5 rfl) ?_
            refine lv_aload hx hb dX10_valueOf_87 (lv_at hl 0 rfl) ?_
            refine r_get X.1 hH (kR_lt hr107) (dR0 _ hr107) rfl inlX5 7 (by decide) (v := .ref (adr Γ (kR r107 + 6))) rfl mw_597 dX10_valueOf_89 ?_
            refine lv_iload hx hb dX10_valueOf_92 (lv_at hl 1 rfl) ?_
            obtain ⟨hg110, h⟩ := chk_some h
            refine r_ild X.1 hH (lR _ hr107 6 (by decide)) (dR6 _ hr107) hg110 dX10_valueOf_94 ?_
            refine lv_iadd hx hb dX10_valueOf_95 ?_
            refine lv_istore_n (lv' := [(2, .int (x2 + (σ.1 34 r107 ((σ.1 0 0 (x3 + (-1)).toNatClampNeg) - (σ.1 0 0 (x3 + (-1)).toNatClampNeg) / (128 : Int32) * (128 : Int32)).toNatClampNeg))), (7, .ref (adr Γ (kR r107))), (6, .int ((σ.1 0 0 (x3 + (-1)).toNatClampNeg) - (σ.1 0 0 (x3 + (-1)).toNatClampNeg) / (128 : Int32) * (128 : Int32))), (5, .int ((σ.1 0 0 (x3 + (-1)).toNatClampNeg) / (128 : Int32))), (3, .int (x3 + (-1))), (0, .ref (adr Γ 0)), (4, .int x4)]) hx hb dX10_valueOf_96 rfl hl (by decide) rfl (fun ls hl => ?_)
            refine lv_aload_n hx hb dX10_valueOf_97 rfl (lv_at hl 5 rfl) ?_
            refine lv_iload_n hx hb dX10_valueOf_98 rfl (lv_at hl 4 rfl) ?_
            refine lv_aload hx hb dX10_valueOf_99 (lv_at hl 1 rfl) ?_
            refine r_get X.1 hH (kR_lt hr107) (dR0 _ hr107) rfl inlX5 9 (by decide) (v := .ref (adr Γ (kR r107 + 8))) rfl mw_619 dX10_valueOf_101 ?_
            refine lv_iload hx hb dX10_valueOf_104 (lv_at hl 2 rfl) ?_
            obtain ⟨hg111, h⟩ := chk_some h
            refine r_ild X.1 hH (lR _ hr107 8 (by decide)) (dR8 _ hr107) hg111 dX10_valueOf_106 ?_
            refine lv_iload hx hb dX10_valueOf_107 (lv_at hl 3 rfl) ?_
            refine lv_iconst (v := 1) hx hb dX10_valueOf_109 (by decide) ?_
            refine lv_iadd hx hb dX10_valueOf_110 ?_
            obtain ⟨σ114, r113, hq112, h⟩ := bnd2_some h
            refine r_callVI X.1 hl hH (As := [.int (x3 + (-1)), .int (σ.1 36 r107 ((σ.1 0 0 (x3 + (-1)).toNatClampNeg) - (σ.1 0 0 (x3 + (-1)).toNatClampNeg) / (128 : Int32) * (128 : Int32)).toNatClampNeg), .int (((σ.1 0 0 (x3 + (-1)).toNatClampNeg) / (128 : Int32)) + (1 : Int32))]) (rest := []) (c_X10_openCall l X.1.2.2.2.2.2.2.1 σ (x3 + (-1)) (σ.1 36 r107 ((σ.1 0 0 (x3 + (-1)).toNatClampNeg) - (σ.1 0 0 (x3 + (-1)).toNatClampNeg) / (128 : Int32) * (128 : Int32)).toNatClampNeg) (((σ.1 0 0 (x3 + (-1)).toNatClampNeg) / (128 : Int32)) + (1 : Int32)) _ _ hq112) (cw_V X.1 3 mw_623 mw_620 mw_621 mw_622 mw_2 rfl rfl (by decide +kernel) ⟨Nat.le_of_ble_eq_true rfl, Nat.le_of_ble_eq_true rfl⟩) (r_recv X.1 hH (by decide) rfl rfl) rfl rfl (Nat.le_of_ble_eq_true rfl) dX10_valueOf_111 ⟨Nat.zero_le _, Nat.zero_le _⟩ (fun H locs hH => ?_)
            refine lv_istore_n (lv' := [(3, .int r113), (2, .int (x2 + (σ.1 34 r107 ((σ.1 0 0 (x3 + (-1)).toNatClampNeg) - (σ.1 0 0 (x3 + (-1)).toNatClampNeg) / (128 : Int32) * (128 : Int32)).toNatClampNeg))), (7, .ref (adr Γ (kR r107))), (6, .int ((σ.1 0 0 (x3 + (-1)).toNatClampNeg) - (σ.1 0 0 (x3 + (-1)).toNatClampNeg) / (128 : Int32) * (128 : Int32))), (5, .int ((σ.1 0 0 (x3 + (-1)).toNatClampNeg) / (128 : Int32))), (0, .ref (adr Γ 0)), (4, .int x4)]) hx hb dX10_valueOf_114 rfl hl (by decide) rfl (fun ls hl => ?_)
            refine lv_aload_n hx hb dX10_valueOf_115 rfl (lv_at hl 5 rfl) ?_
            refine lv_iload_n hx hb dX10_valueOf_116 rfl (lv_at hl 0 rfl) ?_
            refine lv_aload hx hb dX10_valueOf_117 (lv_at hl 2 rfl) ?_
            refine r_get X.1 hH (kR_lt hr107) (dR0 _ hr107) rfl inlX5 8 (by decide) (v := .ref (adr Γ (kR r107 + 7))) rfl mw_598 dX10_valueOf_119 ?_
            refine lv_iload hx hb dX10_valueOf_122 (lv_at hl 3 rfl) ?_
            obtain ⟨hg115, h⟩ := chk_some h
            refine r_ild X.1 hH (lR _ hr107 7 (by decide)) (dR7 _ hr107) hg115 dX10_valueOf_124 ?_
            refine lv_iload hx hb dX10_valueOf_125 (lv_at hl 4 rfl) ?_
            refine lv_iconst (v := 1) hx hb dX10_valueOf_127 (by decide) ?_
            refine lv_iadd hx hb dX10_valueOf_128 ?_
            obtain ⟨σ118, r117, hq116, h⟩ := bnd2_some h
            refine r_callVI X.1 hl hH (As := [.int r113, .int (σ114.1 35 r107 ((σ.1 0 0 (x3 + (-1)).toNatClampNeg) - (σ.1 0 0 (x3 + (-1)).toNatClampNeg) / (128 : Int32) * (128 : Int32)).toNatClampNeg), .int (((σ.1 0 0 (x3 + (-1)).toNatClampNeg) / (128 : Int32)) + (1 : Int32))]) (rest := []) (c_X10_openCall l X.1.2.2.2.2.2.2.1 σ114 r113 (σ114.1 35 r107 ((σ.1 0 0 (x3 + (-1)).toNatClampNeg) - (σ.1 0 0 (x3 + (-1)).toNatClampNeg) / (128 : Int32) * (128 : Int32)).toNatClampNeg) (((σ.1 0 0 (x3 + (-1)).toNatClampNeg) / (128 : Int32)) + (1 : Int32)) _ _ hq116) (cw_V X.1 3 mw_623 mw_620 mw_621 mw_622 mw_2 rfl rfl (by decide +kernel) ⟨Nat.le_of_ble_eq_true rfl, Nat.le_of_ble_eq_true rfl⟩) (r_recv X.1 hH (by decide) rfl rfl) rfl rfl (Nat.le_of_ble_eq_true rfl) dX10_valueOf_129 ⟨Nat.zero_le _, Nat.zero_le _⟩ (fun H locs hH => ?_)
            refine lv_istore_n (lv' := [(3, .int r117), (2, .int (x2 + (σ.1 34 r107 ((σ.1 0 0 (x3 + (-1)).toNatClampNeg) - (σ.1 0 0 (x3 + (-1)).toNatClampNeg) / (128 : Int32) * (128 : Int32)).toNatClampNeg))), (7, .ref (adr Γ (kR r107))), (6, .int ((σ.1 0 0 (x3 + (-1)).toNatClampNeg) - (σ.1 0 0 (x3 + (-1)).toNatClampNeg) / (128 : Int32) * (128 : Int32))), (5, .int ((σ.1 0 0 (x3 + (-1)).toNatClampNeg) / (128 : Int32))), (0, .ref (adr Γ 0)), (4, .int x4)]) hx hb dX10_valueOf_132 rfl hl (by decide) rfl (fun ls hl => ?_)
            refine lv_iinc (v := x4 + 1) (lv' := [(4, .int (x4 + 1)), (3, .int r117), (2, .int (x2 + (σ.1 34 r107 ((σ.1 0 0 (x3 + (-1)).toNatClampNeg) - (σ.1 0 0 (x3 + (-1)).toNatClampNeg) / (128 : Int32) * (128 : Int32)).toNatClampNeg))), (7, .ref (adr Γ (kR r107))), (6, .int ((σ.1 0 0 (x3 + (-1)).toNatClampNeg) - (σ.1 0 0 (x3 + (-1)).toNatClampNeg) / (128 : Int32) * (128 : Int32))), (5, .int ((σ.1 0 0 (x3 + (-1)).toNatClampNeg) / (128 : Int32))), (0, .ref (adr Γ 0))]) hx hb dX10_valueOf_133 hl (k := 6) rfl rfl (by decide) rfl (fun ls hl => ?_)
            refine lv_goto (tgt := 14) hx hb dX10_valueOf_136 (by decide) ?_
            exact ih σ118 (x2 + (σ.1 34 r107 ((σ.1 0 0 (x3 + (-1)).toNatClampNeg) - (σ.1 0 0 (x3 + (-1)).toNatClampNeg) / (128 : Int32) * (128 : Int32)).toNatClampNeg)) r117 (x4 + 1) h _ _ _ hH (lv_sub hl [6, 2, 1, 0] rfl)
          · replace h := if_f h hc
            refine lv_ldcw (v := (-1000000)) hx hb X.1.2.2.2.1 (X.1.hts _ mw_618) dX10_valueOf_82 ?_
            cases h
            exact e_int X hH rfl dX10_valueOf_85
/-- CutoffMill.valueOf(I)I -/
def m_X10_valueOf (σ : Sg) (x1 : Int32) : Option (Sg × Int32) := chk (inb 0 800) (st (wI σ 0 0 (0 : Int32).toNatClampNeg x1) (fun σ102 => m_X10_valueOf_14 x1 1000 σ102 0 1 0))
set_option maxHeartbeats 4000000 in
set_option maxRecDepth 100000 in
theorem c_X10_valueOf (l : Launch) {Γ : GG} (hJ : IJ Γ) (σ : Sg) (x1 : Int32) (σf : Sg) (rf : Int32) (h : m_X10_valueOf σ x1 = some (σf, rf)) : CI l yX10_valueOf (wy yX10_valueOf cX10_valueOf 8 (some .int)) { frames := 1, cells := 0, slots := 0, locals := 23 } Γ σ [.ref (adr Γ 0), .int x1] σf rf := by
  refine met_of (by decide +kernel) hJ (Nat.le_of_ble_eq_true rfl) (fun p e s m below meth c ls X hH hl => ?_)
  have hl : lv_has ls 8 [(0, .ref (adr Γ 0)), (1, .int x1)] := hl
  have hx := X.1.1
  have hb := X.1.2.1
  rw [m_X10_valueOf] at h
  refine lv_iconst (v := 0) hx hb dX10_valueOf_0 (by decide) ?_
  refine lv_istore_n (lv' := [(2, .int 0), (0, .ref (adr Γ 0)), (1, .int x1)]) hx hb dX10_valueOf_1 rfl hl (by decide) rfl (fun ls hl => ?_)
  refine lv_iconst (v := 1) hx hb dX10_valueOf_2 (by decide) ?_
  refine lv_istore_n (lv' := [(3, .int 1), (2, .int 0), (0, .ref (adr Γ 0)), (1, .int x1)]) hx hb dX10_valueOf_3 rfl hl (by decide) rfl (fun ls hl => ?_)
  refine lv_aload_n hx hb dX10_valueOf_4 rfl (lv_at hl 2 rfl) ?_
  refine r_get X.1 hH (by decide) rfl rfl inlX10 5 (by decide) (v := .ref (adr Γ 1)) rfl mw_27 dX10_valueOf_5 ?_
  refine lv_iconst (v := 0) hx hb dX10_valueOf_8 (by decide) ?_
  refine lv_iload_n hx hb dX10_valueOf_9 rfl (lv_at hl 3 rfl) ?_
  obtain ⟨hg101, h⟩ := chk_some h
  obtain ⟨σ102, e103, h⟩ := st_some h
  refine r_ist X.1 hH (by decide) rfl hg101 dX10_valueOf_10 (fun H locs hH => ?_)
  replace hH : HW (IA Γ) Γ σ102 s.heap H locs := by rw [e103]; exact hH
  refine lv_iconst (v := 0) hx hb dX10_valueOf_11 (by decide) ?_
  refine lv_istore (lv' := [(4, .int 0), (3, .int 1), (2, .int 0), (0, .ref (adr Γ 0)), (1, .int x1)]) hx hb dX10_valueOf_12 hl (by decide) rfl (fun ls hl => ?_)
  exact b_X10_valueOf_14 X x1  1000 σ102 0 1 0 h _ _ _ hH (lv_sub hl [3, 2, 1, 0] rfl)
