/-! WALKS, laid by wip/p23/gen.py: X9_answerTo, X9_firstOtherAnswer, X9_reasonOf, X10_ofModule, X10_partOf, X10_within, X9_stateOf, X0_trait, X10_outside, X9_placeInStore, X7_takeOut -/
/-- CutoffMill$Works.answerTo(II)J -/
def m_X9_answerTo (σ : Sg) (i0 : Nat) (x1 : Int32) (x2 : Int32) : Option Int64 := chk (inb x1 128) (if (σ.1 6 0 x1.toNatClampNeg) < 0 then some ((σ.1 6 0 x1.toNatClampNeg : Int32).toInt64) else bnd (m_X6_has σ x2 ((σ.1 6 0 x1.toNatClampNeg) / (16 : Int32))) (fun r103 => if r103 = 0 then chk (inb ((σ.1 6 0 x1.toNatClampNeg) / (16 : Int32)) (lenP 0 i0)) (bnd (σ.2.2 0 i0 ((σ.1 6 0 x1.toNatClampNeg) / (16 : Int32)).toNatClampNeg) (fun r106 => chk (decide (r106 < 30)) (chk (inb (σ.1 6 0 x1.toNatClampNeg) 128) (some (σ.2.1 1 r106 (σ.1 6 0 x1.toNatClampNeg).toNatClampNeg))))) else some ((σ.1 6 0 x1.toNatClampNeg : Int32).toInt64)))
set_option maxHeartbeats 4000000 in
set_option maxRecDepth 100000 in
theorem c_X9_answerTo (l : Launch) {Γ : GG} (hJ : IJ Γ) (σ : Sg) (i0 : Nat) (hi0 : i0 < 2) (x1 : Int32) (x2 : Int32) (rf : Int64) (h : m_X9_answerTo σ i0 x1 x2 = some rf) : CL l yX9_answerTo (wy yX9_answerTo cX9_answerTo 4 (some .long)) { frames := 1, cells := 0, slots := 0, locals := 21 } Γ σ [.ref (adr Γ (kW i0)), .int x1, .int x2] σ rf := by
  refine met_of (by decide +kernel) hJ (Nat.le_of_ble_eq_true rfl) (fun p e s m below meth c ls X hH hl => ?_)
  have hl : lv_has ls 4 [(0, .ref (adr Γ (kW i0))), (1, .int x1), (2, .int x2)] := hl
  have hx := X.1.1
  have hb := X.1.2.1
  rw [m_X9_answerTo] at h
  refine lv_aload_n hx hb dX9_answerTo_0 rfl (lv_at hl 0 rfl) ?_
  refine r_get X.1 hH (kW_lt hi0) (dW0 _ hi0) rfl inlX9 1 (by decide) (v := .ref (adr Γ 4)) rfl mw_65 dX9_answerTo_1 ?_
  refine r_get X.1 hH (by decide) rfl rfl inlX4 1 (by decide) (v := .ref (adr Γ 5)) rfl mw_329 dX9_answerTo_4 ?_
  refine lv_iload_n hx hb dX9_answerTo_7 rfl (lv_at hl 1 rfl) ?_
  obtain ⟨hg101, h⟩ := chk_some h
  refine r_ild X.1 hH (by decide) rfl hg101 dX9_answerTo_8 ?_
  refine lv_istore_n (lv' := [(3, .int (σ.1 6 0 x1.toNatClampNeg)), (0, .ref (adr Γ (kW i0))), (1, .int x1), (2, .int x2)]) hx hb dX9_answerTo_9 rfl hl (by decide) rfl (fun ls hl => ?_)
  refine lv_iload_n hx hb dX9_answerTo_10 rfl (lv_at hl 0 rfl) ?_
  refine lv_if_lt (tgt := 25) hx hb dX9_answerTo_11 (by decide) (fun hc => ?_) (fun hc => ?_)
  · replace h := if_t h hc
    refine lv_iload_n hx hb dX9_answerTo_25 rfl (lv_at hl 0 rfl) ?_
    refine lv_i2l (v := (σ.1 6 0 x1.toNatClampNeg : Int32).toInt64) hx hb dX9_answerTo_26 rfl ?_
    cases h
    exact e_long X hH dX9_answerTo_27
  · replace h := if_f h hc
    refine lv_iload_n hx hb dX9_answerTo_14 rfl (lv_at hl 3 rfl) ?_
    refine lv_iload_n hx hb dX9_answerTo_15 rfl (lv_at hl 0 rfl) ?_
    refine lv_bipush (v := 16) hx hb dX9_answerTo_16 (by decide) ?_
    refine lv_idiv hx hb dX9_answerTo_18 (by decide) ?_
    obtain ⟨r103, hq102, h⟩ := bnd_some h
    refine r_callSI X.1 hl hH (As := [.int x2, .int ((σ.1 6 0 x1.toNatClampNeg) / (16 : Int32))]) (rest := []) (c_X6_has l X.1.2.2.2.2.2.2.1 σ x2 ((σ.1 6 0 x1.toNatClampNeg) / (16 : Int32)) _ hq102) (cw_S X.1 2 mw_204 mw_299 mw_203 mw_20 rfl rfl (by decide +kernel) ⟨Nat.le_of_ble_eq_true rfl, Nat.le_of_ble_eq_true rfl⟩) rfl rfl (Nat.le_of_ble_eq_true rfl) dX9_answerTo_19 ⟨Nat.zero_le _, Nat.zero_le _⟩ (fun H locs hH => ?_)
    refine lv_if_eq (tgt := 28) hx hb dX9_answerTo_22 (by decide) (fun hc => ?_) (fun hc => ?_)
    · replace h := if_t h hc
      refine lv_aload_n hx hb dX9_answerTo_28 rfl (lv_at hl 1 rfl) ?_
      refine r_get X.1 hH (kW_lt hi0) (dW0 _ hi0) rfl inlX9 5 (by decide) (v := .ref (adr Γ (kW i0 + 3))) rfl mw_63 dX9_answerTo_29 ?_
      refine lv_iload_n hx hb dX9_answerTo_32 rfl (lv_at hl 0 rfl) ?_
      refine lv_bipush (v := 16) hx hb dX9_answerTo_33 (by decide) ?_
      refine lv_idiv hx hb dX9_answerTo_35 (by decide) ?_
      obtain ⟨hg105, h⟩ := chk_some h
      obtain ⟨r106, he107, h⟩ := bnd_some h
      obtain ⟨hr106, h⟩ := chk_some h
      replace hr106 := of_decide_eq_true hr106
      refine r_ald X.1 hH (lW _ hi0 3 (by decide)) (dW3 _ hi0) hg105 he107 dX9_answerTo_36 ?_
      refine r_get X.1 hH (kR_lt hr106) (dR0 _ hr106) rfl inlX5 3 (by decide) (v := .ref (adr Γ (kR r106 + 2))) rfl mw_330 dX9_answerTo_37 ?_
      refine lv_iload_n hx hb dX9_answerTo_40 rfl (lv_at hl 0 rfl) ?_
      obtain ⟨hg108, h⟩ := chk_some h
      refine r_lld X.1 hH (lR _ hr106 2 (by decide)) (dR2 _ hr106) hg108 dX9_answerTo_41 ?_
      cases h
      exact e_long X hH dX9_answerTo_42
    · replace h := if_f h hc
      refine lv_iload_n hx hb dX9_answerTo_25 rfl (lv_at hl 0 rfl) ?_
      refine lv_i2l (v := (σ.1 6 0 x1.toNatClampNeg : Int32).toInt64) hx hb dX9_answerTo_26 rfl ?_
      cases h
      exact e_long X hH dX9_answerTo_27
def m_X9_firstOtherAnswer_2 (σ : Sg) (i0 : Nat) (i1 : Nat)  : Nat → Int32 → Option Int32
  | 0, _ => none
  | n + 1, x2 => if 128 ≤ x2 then some ((-1)) else chk (inb x2 128) (if (lg_cmp (σ.2.1 0 i1 x2.toNatClampNeg) ((-3))) = 0 then m_X9_firstOtherAnswer_2 σ i0 i1 n (x2 + 1) else chk (inb x2 128) (bnd (m_X9_answerTo σ i0 x2 (σ.1 30 i1 0)) (fun r104 => if (lg_cmp (σ.2.1 0 i1 x2.toNatClampNeg) r104) = 0 then m_X9_firstOtherAnswer_2 σ i0 i1 n (x2 + 1) else some x2)))
set_option maxHeartbeats 4000000 in
set_option maxRecDepth 100000 in
theorem b_X9_firstOtherAnswer_2 {p : Program} {l : Launch} {e : Env} {s : State} {m : MethodId} {args : Array Value} {below : List Frame} {meth : Method} {c : Code} {Γ : GG} (X : MB Γ p s m args meth c cX9_firstOtherAnswer 3 RX9 (some .int)) (σ : Sg) {rf : Int32} (i0 : Nat) (hi0 : i0 < 2) (i1 : Nat) (hi1 : i1 < 30) : ∀ (n : Nat), (∀ (x2 : Int32), (m_X9_firstOtherAnswer_2 σ i0 i1 n) x2 = some rf → ∀ (H : Heap) (locs : List Loc) (ls : Array Slot), HW (IA Γ) Γ σ s.heap H locs → lv_has ls 3 [(0, .ref (adr Γ (kW i0))), (1, .ref (adr Γ (kR i1))), (2, .int x2)] → W p l e ({ frames := 2, cells := 0, slots := 0, locals := 44 } : Room) s m args below meth c H locs 0 0 (QI Γ σ rf below args s) (F0 m 2 ls [])) := by
  have hx := X.1.1
  have hb := X.1.2.1
  intro n
  induction n with
  | zero => intro x2 h; rw [m_X9_firstOtherAnswer_2] at h; cases h
  | succ n ih =>
    intro x2 h H locs ls hH hl
    rw [m_X9_firstOtherAnswer_2] at h
    refine lv_iload_n hx hb dX9_firstOtherAnswer_2 rfl (lv_at hl 2 rfl) ?_
    refine lv_sipush (v := 128) hx hb dX9_firstOtherAnswer_3 (by decide) ?_
    refine lv_icmp_ge (tgt := 49) hx hb dX9_firstOtherAnswer_6 (by decide) (fun hc => ?_) (fun hc => ?_)
    · replace h := if_t h hc
      refine lv_iconst (v := (-1)) hx hb dX9_firstOtherAnswer_49 (by decide) ?_
      cases h
      exact e_int X hH rfl dX9_firstOtherAnswer_50
    · replace h := if_f h hc
      refine lv_aload_n hx hb dX9_firstOtherAnswer_9 rfl (lv_at hl 1 rfl) ?_
      refine r_get X.1 hH (kR_lt hi1) (dR0 _ hi1) rfl inlX5 2 (by decide) (v := .ref (adr Γ (kR i1 + 1))) rfl mw_323 dX9_firstOtherAnswer_10 ?_
      refine lv_iload_n hx hb dX9_firstOtherAnswer_13 rfl (lv_at hl 2 rfl) ?_
      obtain ⟨hg101, h⟩ := chk_some h
      refine r_lld X.1 hH (lR _ hi1 1 (by decide)) (dR1 _ hi1) hg101 dX9_firstOtherAnswer_14 ?_
      refine lv_ldc2 (v := (-3)) hx hb X.1.2.2.2.1 (X.1.hts _ mw_324) dX9_firstOtherAnswer_15 ?_
      refine W.lcmp hx hb dX9_firstOtherAnswer_18 ?_
      refine lv_if_eq (tgt := 43) hx hb dX9_firstOtherAnswer_19 (by decide) (fun hc => ?_) (fun hc => ?_)
      · replace h := if_t h hc
        refine lv_iinc (v := x2 + 1) (lv' := [(2, .int (x2 + 1)), (0, .ref (adr Γ (kW i0))), (1, .ref (adr Γ (kR i1)))]) hx hb dX9_firstOtherAnswer_43 hl (k := 2) rfl rfl (by decide) rfl (fun ls hl => ?_)
        refine lv_goto (tgt := 2) hx hb dX9_firstOtherAnswer_46 (by decide) ?_
        exact ih  (x2 + 1) h _ _ _ hH (lv_sub hl [1, 2, 0] rfl)
      · replace h := if_f h hc
        refine lv_aload_n hx hb dX9_firstOtherAnswer_22 rfl (lv_at hl 1 rfl) ?_
        refine r_get X.1 hH (kR_lt hi1) (dR0 _ hi1) rfl inlX5 2 (by decide) (v := .ref (adr Γ (kR i1 + 1))) rfl mw_323 dX9_firstOtherAnswer_23 ?_
        refine lv_iload_n hx hb dX9_firstOtherAnswer_26 rfl (lv_at hl 2 rfl) ?_
        obtain ⟨hg102, h⟩ := chk_some h
        refine r_lld X.1 hH (lR _ hi1 1 (by decide)) (dR1 _ hi1) hg102 dX9_firstOtherAnswer_27 ?_
        refine lv_aload_n hx hb dX9_firstOtherAnswer_28 rfl (lv_at hl 0 rfl) ?_
        refine lv_iload_n hx hb dX9_firstOtherAnswer_29 rfl (lv_at hl 2 rfl) ?_
        refine lv_aload_n hx hb dX9_firstOtherAnswer_30 rfl (lv_at hl 1 rfl) ?_
        refine r_get X.1 hH (kR_lt hi1) (dR0 _ hi1) rfl inlX5 0 (by decide) (v := .int (σ.1 30 i1 0)) rfl mw_298 dX9_firstOtherAnswer_31 ?_
        obtain ⟨r104, hq103, h⟩ := bnd_some h
        refine r_callVL X.1 hl hH (As := [.int x2, .int (σ.1 30 i1 0)]) (rest := [.long (σ.2.1 0 i1 x2.toNatClampNeg)]) (c_X9_answerTo l X.1.2.2.2.2.2.2.1 σ i0 hi0 x2 (σ.1 30 i1 0) _ hq103) (cw_V X.1 2 mw_328 mw_325 mw_326 mw_327 mw_24 rfl rfl (by decide +kernel) ⟨Nat.le_of_ble_eq_true rfl, Nat.le_of_ble_eq_true rfl⟩) (r_recv X.1 hH (kW_lt hi0) (dW0 _ hi0) rfl) rfl rfl (Nat.le_of_ble_eq_true rfl) dX9_firstOtherAnswer_34 ⟨Nat.zero_le _, Nat.zero_le _⟩ (fun H locs hH => ?_)
        refine W.lcmp hx hb dX9_firstOtherAnswer_37 ?_
        refine lv_if_eq (tgt := 43) hx hb dX9_firstOtherAnswer_38 (by decide) (fun hc => ?_) (fun hc => ?_)
        · replace h := if_t h hc
          refine lv_iinc (v := x2 + 1) (lv' := [(2, .int (x2 + 1)), (0, .ref (adr Γ (kW i0))), (1, .ref (adr Γ (kR i1)))]) hx hb dX9_firstOtherAnswer_43 hl (k := 2) rfl rfl (by decide) rfl (fun ls hl => ?_)
          refine lv_goto (tgt := 2) hx hb dX9_firstOtherAnswer_46 (by decide) ?_
          exact ih  (x2 + 1) h _ _ _ hH (lv_sub hl [1, 2, 0] rfl)
        · replace h := if_f h hc
          refine lv_iload_n hx hb dX9_firstOtherAnswer_41 rfl (lv_at hl 2 rfl) ?_
          cases h
          exact e_int X hH rfl dX9_firstOtherAnswer_42
/-- CutoffMill$Works.firstOtherAnswer(LCutoffMill$Result;)I -/
def m_X9_firstOtherAnswer (σ : Sg) (i0 : Nat) (i1 : Nat) : Option Int32 := m_X9_firstOtherAnswer_2 σ i0 i1 1000 0
set_option maxHeartbeats 4000000 in
set_option maxRecDepth 100000 in
theorem c_X9_firstOtherAnswer (l : Launch) {Γ : GG} (hJ : IJ Γ) (σ : Sg) (i0 : Nat) (hi0 : i0 < 2) (i1 : Nat) (hi1 : i1 < 30) (rf : Int32) (h : m_X9_firstOtherAnswer σ i0 i1 = some rf) : CI l yX9_firstOtherAnswer (wy yX9_firstOtherAnswer cX9_firstOtherAnswer 3 (some .int)) { frames := 2, cells := 0, slots := 0, locals := 44 } Γ σ [.ref (adr Γ (kW i0)), .ref (adr Γ (kR i1))] σ rf := by
  refine met_of (by decide +kernel) hJ (Nat.le_of_ble_eq_true rfl) (fun p e s m below meth c ls X hH hl => ?_)
  have hl : lv_has ls 3 [(0, .ref (adr Γ (kW i0))), (1, .ref (adr Γ (kR i1)))] := hl
  have hx := X.1.1
  have hb := X.1.2.1
  rw [m_X9_firstOtherAnswer] at h
  refine lv_iconst (v := 0) hx hb dX9_firstOtherAnswer_0 (by decide) ?_
  refine lv_istore_n (lv' := [(2, .int 0), (0, .ref (adr Γ (kW i0))), (1, .ref (adr Γ (kR i1)))]) hx hb dX9_firstOtherAnswer_1 rfl hl (by decide) rfl (fun ls hl => ?_)
  exact b_X9_firstOtherAnswer_2 X σ i0 hi0 i1 hi1  1000  0 h _ _ _ hH (lv_sub hl [1, 2, 0] rfl)
/-- CutoffMill$Works.reasonOf(I)I -/
def m_X9_reasonOf (σ : Sg) (i0 : Nat) (x1 : Int32) : Option Int32 := bnd (m_X9_firstUnbuilt σ i0 x1) (fun r102 => if r102 = ((-1)) then bnd (m_X9_wasInOtherRing σ i0 x1) (fun r105 => if r105 = 0 then bnd (m_X9_resultOf σ i0 x1) (fun r108 => chk (decide (r108 < 30)) (bnd (m_X9_firstOtherText σ i0 r108) (fun r111 => if r111 = ((-1)) then bnd (m_X9_firstOtherAnswer σ i0 r108) (fun r114 => if r114 = ((-1)) then some 0 else some 4) else some 3))) else some 2) else some 1)
set_option maxHeartbeats 4000000 in
set_option maxRecDepth 100000 in
theorem c_X9_reasonOf (l : Launch) {Γ : GG} (hJ : IJ Γ) (σ : Sg) (i0 : Nat) (hi0 : i0 < 2) (x1 : Int32) (rf : Int32) (h : m_X9_reasonOf σ i0 x1 = some rf) : CI l yX9_reasonOf (wy yX9_reasonOf cX9_reasonOf 3 (some .int)) { frames := 3, cells := 0, slots := 0, locals := 67 } Γ σ [.ref (adr Γ (kW i0)), .int x1] σ rf := by
  refine met_of (by decide +kernel) hJ (Nat.le_of_ble_eq_true rfl) (fun p e s m below meth c ls X hH hl => ?_)
  have hl : lv_has ls 3 [(0, .ref (adr Γ (kW i0))), (1, .int x1)] := hl
  have hx := X.1.1
  have hb := X.1.2.1
  rw [m_X9_reasonOf] at h
  refine lv_aload_n hx hb dX9_reasonOf_0 rfl (lv_at hl 0 rfl) ?_
  refine lv_iload_n hx hb dX9_reasonOf_1 rfl (lv_at hl 1 rfl) ?_
  obtain ⟨r102, hq101, h⟩ := bnd_some h
  refine r_callVI X.1 hl hH (As := [.int x1]) (rest := []) (c_X9_firstUnbuilt l X.1.2.2.2.2.2.2.1 σ i0 hi0 x1 _ hq101) (cw_V X.1 1 mw_297 mw_294 mw_295 mw_296 mw_24 rfl rfl (by decide +kernel) ⟨Nat.le_of_ble_eq_true rfl, Nat.le_of_ble_eq_true rfl⟩) (r_recv X.1 hH (kW_lt hi0) (dW0 _ hi0) rfl) rfl rfl (Nat.le_of_ble_eq_true rfl) dX9_reasonOf_2 ⟨Nat.zero_le _, Nat.zero_le _⟩ (fun H locs hH => ?_)
  refine lv_iconst (v := (-1)) hx hb dX9_reasonOf_5 (by decide) ?_
  refine lv_icmp_eq (tgt := 11) hx hb dX9_reasonOf_6 (by decide) (fun hc => ?_) (fun hc => ?_)
  · replace h := if_t h hc
    refine lv_aload_n hx hb dX9_reasonOf_11 rfl (lv_at hl 0 rfl) ?_
    refine lv_iload_n hx hb dX9_reasonOf_12 rfl (lv_at hl 1 rfl) ?_
    obtain ⟨r105, hq104, h⟩ := bnd_some h
    refine r_callVI X.1 hl hH (As := [.int x1]) (rest := []) (c_X9_wasInOtherRing l X.1.2.2.2.2.2.2.1 σ i0 hi0 x1 _ hq104) (cw_V X.1 1 mw_303 mw_300 mw_301 mw_302 mw_24 rfl rfl (by decide +kernel) ⟨Nat.le_of_ble_eq_true rfl, Nat.le_of_ble_eq_true rfl⟩) (r_recv X.1 hH (kW_lt hi0) (dW0 _ hi0) rfl) rfl rfl (Nat.le_of_ble_eq_true rfl) dX9_reasonOf_13 ⟨Nat.zero_le _, Nat.zero_le _⟩ (fun H locs hH => ?_)
    refine lv_if_eq (tgt := 21) hx hb dX9_reasonOf_16 (by decide) (fun hc => ?_) (fun hc => ?_)
    · replace h := if_t h hc
      refine lv_aload_n hx hb dX9_reasonOf_21 rfl (lv_at hl 0 rfl) ?_
      refine lv_iload_n hx hb dX9_reasonOf_22 rfl (lv_at hl 1 rfl) ?_
      obtain ⟨r108, hq107, h⟩ := bnd_some h
      obtain ⟨hr108, h⟩ := chk_some h
      replace hr108 := of_decide_eq_true hr108
      refine r_callVR X.1 hl hH (As := [.int x1]) (rest := []) (c_X9_resultOf l X.1.2.2.2.2.2.2.1 σ i0 hi0 x1 _ hq107) (cw_V X.1 1 mw_307 mw_304 mw_305 mw_306 mw_24 rfl rfl (by decide +kernel) ⟨Nat.le_of_ble_eq_true rfl, Nat.le_of_ble_eq_true rfl⟩) (r_recv X.1 hH (kW_lt hi0) (dW0 _ hi0) rfl) rfl rfl (Nat.le_of_ble_eq_true rfl) dX9_reasonOf_23 ⟨Nat.zero_le _, Nat.zero_le _⟩ (fun H locs hH => ?_)
      refine lv_astore_n (lv' := [(2, .ref (adr Γ (kR r108))), (0, .ref (adr Γ (kW i0))), (1, .int x1)]) hx hb dX9_reasonOf_26 rfl hl (by decide) rfl (fun ls hl => ?_)
      refine lv_aload_n hx hb dX9_reasonOf_27 rfl (lv_at hl 1 rfl) ?_
      refine lv_aload_n hx hb dX9_reasonOf_28 rfl (lv_at hl 0 rfl) ?_
      obtain ⟨r111, hq110, h⟩ := bnd_some h
      refine r_callVI X.1 hl hH (As := [.ref (adr Γ (kR r108))]) (rest := []) (c_X9_firstOtherText l X.1.2.2.2.2.2.2.1 σ i0 hi0 r108 hr108 _ hq110) (cw_V X.1 1 mw_312 mw_309 mw_310 mw_311 mw_24 rfl rfl (by decide +kernel) ⟨Nat.le_of_ble_eq_true rfl, Nat.le_of_ble_eq_true rfl⟩) (r_recv X.1 hH (kW_lt hi0) (dW0 _ hi0) rfl) rfl rfl (Nat.le_of_ble_eq_true rfl) dX9_reasonOf_29 ⟨Nat.zero_le _, Nat.zero_le _⟩ (fun H locs hH => ?_)
      refine lv_iconst (v := (-1)) hx hb dX9_reasonOf_32 (by decide) ?_
      refine lv_icmp_eq (tgt := 38) hx hb dX9_reasonOf_33 (by decide) (fun hc => ?_) (fun hc => ?_)
      · replace h := if_t h hc
        refine lv_aload_n hx hb dX9_reasonOf_38 rfl (lv_at hl 1 rfl) ?_
        refine lv_aload_n hx hb dX9_reasonOf_39 rfl (lv_at hl 0 rfl) ?_
        obtain ⟨r114, hq113, h⟩ := bnd_some h
        refine r_callVI X.1 hl hH (As := [.ref (adr Γ (kR r108))]) (rest := []) (c_X9_firstOtherAnswer l X.1.2.2.2.2.2.2.1 σ i0 hi0 r108 hr108 _ hq113) (cw_V X.1 1 mw_322 mw_319 mw_320 mw_321 mw_24 rfl rfl (by decide +kernel) ⟨Nat.le_of_ble_eq_true rfl, Nat.le_of_ble_eq_true rfl⟩) (r_recv X.1 hH (kW_lt hi0) (dW0 _ hi0) rfl) rfl rfl (Nat.le_of_ble_eq_true rfl) dX9_reasonOf_40 ⟨Nat.zero_le _, Nat.zero_le _⟩ (fun H locs hH => ?_)
        refine lv_iconst (v := (-1)) hx hb dX9_reasonOf_43 (by decide) ?_
        refine lv_icmp_eq (tgt := 51) hx hb dX9_reasonOf_44 (by decide) (fun hc => ?_) (fun hc => ?_)
        · replace h := if_t h hc
          refine lv_iconst (v := 0) hx hb dX9_reasonOf_51 (by decide) ?_
          cases h
          exact e_int X hH rfl dX9_reasonOf_52
        · replace h := if_f h hc
          refine lv_iconst (v := 4) hx hb dX9_reasonOf_47 (by decide) ?_
          refine lv_goto (tgt := 52) hx hb dX9_reasonOf_48 (by decide) ?_
          cases h
          exact e_int X hH rfl dX9_reasonOf_52
      · replace h := if_f h hc
        refine lv_iconst (v := 3) hx hb dX9_reasonOf_36 (by decide) ?_
        cases h
        exact e_int X hH rfl dX9_reasonOf_37
    · replace h := if_f h hc
      refine lv_iconst (v := 2) hx hb dX9_reasonOf_19 (by decide) ?_
      cases h
      exact e_int X hH rfl dX9_reasonOf_20
  · replace h := if_f h hc
    refine lv_iconst (v := 1) hx hb dX9_reasonOf_9 (by decide) ?_
    cases h
    exact e_int X hH rfl dX9_reasonOf_10
/-- CutoffMill.ofModule(II)I -/
def m_X10_ofModule (σ : Sg) (x1 : Int32) (x2 : Int32) : Option Int32 := bnd (m_X10_checkModule σ x1) (fun _ => bnd (m_X10_checkWithin σ x2 0 8) (fun _ => chk (inb x1 8) (if x2.toInt = 0 then bnd (m_X8_declarationsOf σ 0 x1) (fun r109 => some r109) else if x2.toInt = 1 then chk (inb x1 8) (some (σ.1 28 0 x1.toNatClampNeg)) else if x2.toInt = 2 then bnd (m_X6_smallestOf σ (σ.1 15 0 x1.toNatClampNeg)) (fun r113 => some r113) else if x2.toInt = 3 then chk (inb x1 8) (some (σ.1 16 0 x1.toNatClampNeg)) else if x2.toInt = 4 then chk (inb x1 8) (some (σ.1 13 0 x1.toNatClampNeg)) else if x2.toInt = 5 then bnd (m_X4_wantedBy σ x1) (fun r118 => some r118) else if x2.toInt = 6 then chk (inb x1 8) (some (σ.1 1 0 x1.toNatClampNeg)) else if x2.toInt = 7 then chk (inb x1 8) (some (σ.1 2 0 x1.toNatClampNeg)) else bnd (m_X9_reasonOf σ 0 (σ.1 15 0 x1.toNatClampNeg)) (fun r123 => if r123 = 0 then some 0 else some 1))))
set_option maxHeartbeats 4000000 in
set_option maxRecDepth 100000 in
theorem c_X10_ofModule (l : Launch) {Γ : GG} (hJ : IJ Γ) (σ : Sg) (x1 : Int32) (x2 : Int32) (rf : Int32) (h : m_X10_ofModule σ x1 x2 = some rf) : CI l yX10_ofModule (wy yX10_ofModule cX10_ofModule 4 (some .int)) { frames := 4, cells := 0, slots := 0, locals := 89 } Γ σ [.ref (adr Γ 0), .int x1, .int x2] σ rf := by
  refine met_of (by decide +kernel) hJ (Nat.le_of_ble_eq_true rfl) (fun p e s m below meth c ls X hH hl => ?_)
  have hl : lv_has ls 4 [(0, .ref (adr Γ 0)), (1, .int x1), (2, .int x2)] := hl
  have hx := X.1.1
  have hb := X.1.2.1
  rw [m_X10_ofModule] at h
  refine lv_aload_n hx hb dX10_ofModule_0 rfl (lv_at hl 0 rfl) ?_
  refine lv_iload_n hx hb dX10_ofModule_1 rfl (lv_at hl 1 rfl) ?_
  obtain ⟨_, hq101, h⟩ := bnd_some h
  refine r_callVV X.1 hl hH (r := ()) (As := [.int x1]) (rest := []) (c_X10_checkModule l X.1.2.2.2.2.2.2.1 σ x1 () hq101) (cw_V X.1 1 mw_263 mw_260 mw_261 mw_262 mw_2 rfl rfl (by decide +kernel) ⟨Nat.le_of_ble_eq_true rfl, Nat.le_of_ble_eq_true rfl⟩) (r_recv X.1 hH (by decide) rfl rfl) rfl rfl (Nat.le_of_ble_eq_true rfl) dX10_ofModule_2 ⟨Nat.zero_le _, Nat.zero_le _⟩ (fun H locs hH => ?_)
  refine lv_iload_n hx hb dX10_ofModule_5 rfl (lv_at hl 2 rfl) ?_
  refine lv_iconst (v := 0) hx hb dX10_ofModule_6 (by decide) ?_
  refine lv_bipush (v := 8) hx hb dX10_ofModule_7 (by decide) ?_
  obtain ⟨_, hq104, h⟩ := bnd_some h
  refine r_callSV X.1 hl hH (r := ()) (As := [.int x2, .int 0, .int 8]) (rest := []) (c_X10_checkWithin l X.1.2.2.2.2.2.2.1 σ x2 0 8 () hq104) (cw_S X.1 3 mw_268 mw_266 mw_267 mw_2 rfl rfl (by decide +kernel) ⟨Nat.le_of_ble_eq_true rfl, Nat.le_of_ble_eq_true rfl⟩) rfl rfl (Nat.le_of_ble_eq_true rfl) dX10_ofModule_9 ⟨Nat.zero_le _, Nat.zero_le _⟩ (fun H locs hH => ?_)
  refine lv_aload_n hx hb dX10_ofModule_12 rfl (lv_at hl 0 rfl) ?_
  refine r_get X.1 hH (by decide) rfl rfl inlX10 2 (by decide) (v := .ref (adr Γ 12)) rfl mw_21 dX10_ofModule_13 ?_
  refine r_get X.1 hH (by decide) rfl rfl inlX6 3 (by decide) (v := .ref (adr Γ 15)) rfl mw_256 dX10_ofModule_16 ?_
  refine lv_iload_n hx hb dX10_ofModule_19 rfl (lv_at hl 1 rfl) ?_
  obtain ⟨hg107, h⟩ := chk_some h
  refine r_ild X.1 hH (by decide) rfl hg107 dX10_ofModule_20 ?_
  refine lv_istore_n (lv' := [(3, .int (σ.1 15 0 x1.toNatClampNeg)), (0, .ref (adr Γ 0)), (1, .int x1), (2, .int x2)]) hx hb dX10_ofModule_21 rfl hl (by decide) rfl (fun ls hl => ?_)
  refine lv_iload_n hx hb dX10_ofModule_22 rfl (lv_at hl 3 rfl) ?_
  by_cases hc : x2.toInt = 0
  · replace h := if_t h hc
    refine lv_tableIn (tgt := 68) hx hb dX10_ofModule_23 (by rw [hc]; decide) (by rw [hc]; decide) (by rw [hc]; rfl) (by decide) ?_
    refine lv_aload_n hx hb dX10_ofModule_68 rfl (lv_at hl 1 rfl) ?_
    refine r_get X.1 hH (by decide) rfl rfl inlX10 0 (by decide) (v := .ref (adr Γ (kT 0))) rfl mw_13 dX10_ofModule_69 ?_
    refine lv_iload_n hx hb dX10_ofModule_72 rfl (lv_at hl 2 rfl) ?_
    obtain ⟨r109, hq108, h⟩ := bnd_some h
    refine r_callVI X.1 hl hH (As := [.int x1]) (rest := []) (c_X8_declarationsOf l X.1.2.2.2.2.2.2.1 σ 0 (by omega) x1 _ hq108) (cw_V X.1 1 mw_274 mw_271 mw_272 mw_273 mw_12 rfl rfl (by decide +kernel) ⟨Nat.le_of_ble_eq_true rfl, Nat.le_of_ble_eq_true rfl⟩) (r_recv X.1 hH (kT_lt (by omega)) (dT0 _ (by omega)) rfl) rfl rfl (Nat.le_of_ble_eq_true rfl) dX10_ofModule_73 ⟨Nat.zero_le _, Nat.zero_le _⟩ (fun H locs hH => ?_)
    cases h
    exact e_int X hH rfl dX10_ofModule_76
  · replace h := if_f h hc
    have hn0 := hc
    by_cases hc : x2.toInt = 1
    · replace h := if_t h hc
      refine lv_tableIn (tgt := 77) hx hb dX10_ofModule_23 (by rw [hc]; decide) (by rw [hc]; decide) (by rw [hc]; rfl) (by decide) ?_
      refine lv_aload_n hx hb dX10_ofModule_77 rfl (lv_at hl 1 rfl) ?_
      refine r_get X.1 hH (by decide) rfl rfl inlX10 0 (by decide) (v := .ref (adr Γ (kT 0))) rfl mw_13 dX10_ofModule_78 ?_
      refine r_get X.1 hH (kT_lt (by omega)) (dT0 _ (by omega)) rfl inlX8 2 (by decide) (v := .ref (adr Γ (kT 0 + 3))) rfl mw_257 dX10_ofModule_81 ?_
      refine lv_iload_n hx hb dX10_ofModule_84 rfl (lv_at hl 2 rfl) ?_
      obtain ⟨hg111, h⟩ := chk_some h
      refine r_ild X.1 hH (lT3 _ (by omega)) (dT3 _ (by omega)) hg111 dX10_ofModule_85 ?_
      cases h
      exact e_int X hH rfl dX10_ofModule_86
    · replace h := if_f h hc
      have hn1 := hc
      by_cases hc : x2.toInt = 2
      · replace h := if_t h hc
        refine lv_tableIn (tgt := 87) hx hb dX10_ofModule_23 (by rw [hc]; decide) (by rw [hc]; decide) (by rw [hc]; rfl) (by decide) ?_
        refine lv_iload_n hx hb dX10_ofModule_87 rfl (lv_at hl 0 rfl) ?_
        obtain ⟨r113, hq112, h⟩ := bnd_some h
        refine r_callSI X.1 hl hH (As := [.int (σ.1 15 0 x1.toNatClampNeg)]) (rest := []) (c_X6_smallestOf l X.1.2.2.2.2.2.2.1 σ (σ.1 15 0 x1.toNatClampNeg) _ hq112) (cw_S X.1 1 mw_278 mw_276 mw_277 mw_20 rfl rfl (by decide +kernel) ⟨Nat.le_of_ble_eq_true rfl, Nat.le_of_ble_eq_true rfl⟩) rfl rfl (Nat.le_of_ble_eq_true rfl) dX10_ofModule_88 ⟨Nat.zero_le _, Nat.zero_le _⟩ (fun H locs hH => ?_)
        cases h
        exact e_int X hH rfl dX10_ofModule_91
      · replace h := if_f h hc
        have hn2 := hc
        by_cases hc : x2.toInt = 3
        · replace h := if_t h hc
          refine lv_tableIn (tgt := 92) hx hb dX10_ofModule_23 (by rw [hc]; decide) (by rw [hc]; decide) (by rw [hc]; rfl) (by decide) ?_
          refine lv_aload_n hx hb dX10_ofModule_92 rfl (lv_at hl 1 rfl) ?_
          refine r_get X.1 hH (by decide) rfl rfl inlX10 2 (by decide) (v := .ref (adr Γ 12)) rfl mw_21 dX10_ofModule_93 ?_
          refine r_get X.1 hH (by decide) rfl rfl inlX6 4 (by decide) (v := .ref (adr Γ 16)) rfl mw_258 dX10_ofModule_96 ?_
          refine lv_iload_n hx hb dX10_ofModule_99 rfl (lv_at hl 2 rfl) ?_
          obtain ⟨hg115, h⟩ := chk_some h
          refine r_ild X.1 hH (by decide) rfl hg115 dX10_ofModule_100 ?_
          cases h
          exact e_int X hH rfl dX10_ofModule_101
        · replace h := if_f h hc
          have hn3 := hc
          by_cases hc : x2.toInt = 4
          · replace h := if_t h hc
            refine lv_tableIn (tgt := 102) hx hb dX10_ofModule_23 (by rw [hc]; decide) (by rw [hc]; decide) (by rw [hc]; rfl) (by decide) ?_
            refine lv_aload_n hx hb dX10_ofModule_102 rfl (lv_at hl 1 rfl) ?_
            refine r_get X.1 hH (by decide) rfl rfl inlX10 2 (by decide) (v := .ref (adr Γ 12)) rfl mw_21 dX10_ofModule_103 ?_
            refine r_get X.1 hH (by decide) rfl rfl inlX6 1 (by decide) (v := .ref (adr Γ 13)) rfl mw_259 dX10_ofModule_106 ?_
            refine lv_iload_n hx hb dX10_ofModule_109 rfl (lv_at hl 2 rfl) ?_
            obtain ⟨hg116, h⟩ := chk_some h
            refine r_ild X.1 hH (by decide) rfl hg116 dX10_ofModule_110 ?_
            cases h
            exact e_int X hH rfl dX10_ofModule_111
          · replace h := if_f h hc
            have hn4 := hc
            by_cases hc : x2.toInt = 5
            · replace h := if_t h hc
              refine lv_tableIn (tgt := 112) hx hb dX10_ofModule_23 (by rw [hc]; decide) (by rw [hc]; decide) (by rw [hc]; rfl) (by decide) ?_
              refine lv_aload_n hx hb dX10_ofModule_112 rfl (lv_at hl 1 rfl) ?_
              refine r_get X.1 hH (by decide) rfl rfl inlX10 1 (by decide) (v := .ref (adr Γ 4)) rfl mw_17 dX10_ofModule_113 ?_
              refine lv_iload_n hx hb dX10_ofModule_116 rfl (lv_at hl 2 rfl) ?_
              obtain ⟨r118, hq117, h⟩ := bnd_some h
              refine r_callVI X.1 hl hH (As := [.int x1]) (rest := []) (c_X4_wantedBy l X.1.2.2.2.2.2.2.1 σ x1 _ hq117) (cw_V X.1 1 mw_282 mw_279 mw_280 mw_281 mw_16 rfl rfl (by decide +kernel) ⟨Nat.le_of_ble_eq_true rfl, Nat.le_of_ble_eq_true rfl⟩) (r_recv X.1 hH (by decide) rfl rfl) rfl rfl (Nat.le_of_ble_eq_true rfl) dX10_ofModule_117 ⟨Nat.zero_le _, Nat.zero_le _⟩ (fun H locs hH => ?_)
              cases h
              exact e_int X hH rfl dX10_ofModule_120
            · replace h := if_f h hc
              have hn5 := hc
              by_cases hc : x2.toInt = 6
              · replace h := if_t h hc
                refine lv_tableIn (tgt := 121) hx hb dX10_ofModule_23 (by rw [hc]; decide) (by rw [hc]; decide) (by rw [hc]; rfl) (by decide) ?_
                refine lv_aload_n hx hb dX10_ofModule_121 rfl (lv_at hl 1 rfl) ?_
                refine r_get X.1 hH (by decide) rfl rfl inlX10 6 (by decide) (v := .ref (adr Γ 2)) rfl mw_28 dX10_ofModule_122 ?_
                refine lv_iload_n hx hb dX10_ofModule_125 rfl (lv_at hl 2 rfl) ?_
                obtain ⟨hg120, h⟩ := chk_some h
                refine r_ild X.1 hH (by decide) rfl hg120 dX10_ofModule_126 ?_
                cases h
                exact e_int X hH rfl dX10_ofModule_127
              · replace h := if_f h hc
                have hn6 := hc
                by_cases hc : x2.toInt = 7
                · replace h := if_t h hc
                  refine lv_tableIn (tgt := 128) hx hb dX10_ofModule_23 (by rw [hc]; decide) (by rw [hc]; decide) (by rw [hc]; rfl) (by decide) ?_
                  refine lv_aload_n hx hb dX10_ofModule_128 rfl (lv_at hl 1 rfl) ?_
                  refine r_get X.1 hH (by decide) rfl rfl inlX10 7 (by decide) (v := .ref (adr Γ 3)) rfl mw_29 dX10_ofModule_129 ?_
                  refine lv_iload_n hx hb dX10_ofModule_132 rfl (lv_at hl 2 rfl) ?_
                  obtain ⟨hg121, h⟩ := chk_some h
                  refine r_ild X.1 hH (by decide) rfl hg121 dX10_ofModule_133 ?_
                  cases h
                  exact e_int X hH rfl dX10_ofModule_134
                · replace h := if_f h hc
                  have hn7 := hc
                  refine lv_tableOut (tgt := 135) hx hb dX10_ofModule_23 (by omega) (by decide) ?_
                  refine lv_aload_n hx hb dX10_ofModule_135 rfl (lv_at hl 1 rfl) ?_
                  refine r_get X.1 hH (by decide) rfl rfl inlX10 3 (by decide) (v := .ref (adr Γ (kW 0))) rfl mw_25 dX10_ofModule_136 ?_
                  refine lv_iload_n hx hb dX10_ofModule_139 rfl (lv_at hl 0 rfl) ?_
                  obtain ⟨r123, hq122, h⟩ := bnd_some h
                  refine r_callVI X.1 hl hH (As := [.int (σ.1 15 0 x1.toNatClampNeg)]) (rest := []) (c_X9_reasonOf l X.1.2.2.2.2.2.2.1 σ 0 (by omega) (σ.1 15 0 x1.toNatClampNeg) _ hq122) (cw_V X.1 1 mw_293 mw_290 mw_291 mw_292 mw_24 rfl rfl (by decide +kernel) ⟨Nat.le_of_ble_eq_true rfl, Nat.le_of_ble_eq_true rfl⟩) (r_recv X.1 hH (kW_lt (by omega)) (dW0 _ (by omega)) rfl) rfl rfl (Nat.le_of_ble_eq_true rfl) dX10_ofModule_140 ⟨Nat.zero_le _, Nat.zero_le _⟩ (fun H locs hH => ?_)
                  refine lv_if_ne (tgt := 150) hx hb dX10_ofModule_143 (by decide) (fun hc => ?_) (fun hc => ?_)
                  · replace h := if_f h hc
                    refine lv_iconst (v := 1) hx hb dX10_ofModule_150 (by decide) ?_
                    cases h
                    exact e_int X hH rfl dX10_ofModule_151
                  · replace h := if_t h hc
                    refine lv_iconst (v := 0) hx hb dX10_ofModule_146 (by decide) ?_
                    refine lv_goto (tgt := 151) hx hb dX10_ofModule_147 (by decide) ?_
                    cases h
                    exact e_int X hH rfl dX10_ofModule_151
/-- CutoffMill.partOf(II)I -/
def m_X10_partOf (σ : Sg) (x0 : Int32) (x1 : Int32) : Option Int32 := if 0 ≤ x0 then if x1 = 0 then some (x0 / (16 : Int32)) else some (x0 - x0 / (16 : Int32) * (16 : Int32)) else some x0
set_option maxHeartbeats 4000000 in
set_option maxRecDepth 100000 in
theorem c_X10_partOf (l : Launch) {Γ : GG} (hJ : IJ Γ) (σ : Sg) (x0 : Int32) (x1 : Int32) (rf : Int32) (h : m_X10_partOf σ x0 x1 = some rf) : CI l yX10_partOf (wy yX10_partOf cX10_partOf 2 (some .int)) { frames := 0, cells := 0, slots := 0, locals := 0 } Γ σ [.int x0, .int x1] σ rf := by
  refine met_of (by decide +kernel) hJ (Nat.le_of_ble_eq_true rfl) (fun p e s m below meth c ls X hH hl => ?_)
  have hl : lv_has ls 2 [(0, .int x0), (1, .int x1)] := hl
  have hx := X.1.1
  have hb := X.1.2.1
  rw [m_X10_partOf] at h
  refine lv_iload_n hx hb dX10_partOf_0 rfl (lv_at hl 0 rfl) ?_
  refine lv_if_ge (tgt := 6) hx hb dX10_partOf_1 (by decide) (fun hc => ?_) (fun hc => ?_)
  · replace h := if_t h hc
    refine lv_iload_n hx hb dX10_partOf_6 rfl (lv_at hl 1 rfl) ?_
    refine lv_if_ne (tgt := 17) hx hb dX10_partOf_7 (by decide) (fun hc => ?_) (fun hc => ?_)
    · replace h := if_f h hc
      refine lv_iload_n hx hb dX10_partOf_17 rfl (lv_at hl 0 rfl) ?_
      refine lv_bipush (v := 16) hx hb dX10_partOf_18 (by decide) ?_
      refine lv_irem hx hb dX10_partOf_20 (by decide) ?_
      cases h
      exact e_int X hH rfl dX10_partOf_21
    · replace h := if_t h hc
      refine lv_iload_n hx hb dX10_partOf_10 rfl (lv_at hl 0 rfl) ?_
      refine lv_bipush (v := 16) hx hb dX10_partOf_11 (by decide) ?_
      refine lv_idiv hx hb dX10_partOf_13 (by decide) ?_
      refine lv_goto (tgt := 21) hx hb dX10_partOf_14 (by decide) ?_
      cases h
      exact e_int X hH rfl dX10_partOf_21
  · replace h := if_f h hc
    refine lv_iload_n hx hb dX10_partOf_4 rfl (lv_at hl 0 rfl) ?_
    cases h
    exact e_int X hH rfl dX10_partOf_5
/-- CutoffMill.within(III)I -/
def m_X10_within (σ : Sg) (x1 : Int32) (x2 : Int32) (x3 : Int32) : Option Int32 := bnd (m_X10_checkModule σ x1) (fun _ => bnd (m_X10_checkWithin σ x2 0 15) (fun _ => bnd (m_X10_checkWithin σ x3 0 1) (fun _ => chk (inb ((x1 * (16 : Int32)) + x2) 128) (bnd (m_X10_partOf σ (σ.1 7 0 ((x1 * (16 : Int32)) + x2).toNatClampNeg) x3) (fun r112 => some r112)))))
set_option maxHeartbeats 4000000 in
set_option maxRecDepth 100000 in
theorem c_X10_within (l : Launch) {Γ : GG} (hJ : IJ Γ) (σ : Sg) (x1 : Int32) (x2 : Int32) (x3 : Int32) (rf : Int32) (h : m_X10_within σ x1 x2 x3 = some rf) : CI l yX10_within (wy yX10_within cX10_within 4 (some .int)) { frames := 1, cells := 0, slots := 0, locals := 22 } Γ σ [.ref (adr Γ 0), .int x1, .int x2, .int x3] σ rf := by
  refine met_of (by decide +kernel) hJ (Nat.le_of_ble_eq_true rfl) (fun p e s m below meth c ls X hH hl => ?_)
  have hl : lv_has ls 4 [(0, .ref (adr Γ 0)), (1, .int x1), (2, .int x2), (3, .int x3)] := hl
  have hx := X.1.1
  have hb := X.1.2.1
  rw [m_X10_within] at h
  refine lv_aload_n hx hb dX10_within_0 rfl (lv_at hl 0 rfl) ?_
  refine lv_iload_n hx hb dX10_within_1 rfl (lv_at hl 1 rfl) ?_
  obtain ⟨_, hq101, h⟩ := bnd_some h
  refine r_callVV X.1 hl hH (r := ()) (As := [.int x1]) (rest := []) (c_X10_checkModule l X.1.2.2.2.2.2.2.1 σ x1 () hq101) (cw_V X.1 1 mw_263 mw_260 mw_261 mw_262 mw_2 rfl rfl (by decide +kernel) ⟨Nat.le_of_ble_eq_true rfl, Nat.le_of_ble_eq_true rfl⟩) (r_recv X.1 hH (by decide) rfl rfl) rfl rfl (Nat.le_of_ble_eq_true rfl) dX10_within_2 ⟨Nat.zero_le _, Nat.zero_le _⟩ (fun H locs hH => ?_)
  refine lv_iload_n hx hb dX10_within_5 rfl (lv_at hl 2 rfl) ?_
  refine lv_iconst (v := 0) hx hb dX10_within_6 (by decide) ?_
  refine lv_bipush (v := 15) hx hb dX10_within_7 (by decide) ?_
  obtain ⟨_, hq104, h⟩ := bnd_some h
  refine r_callSV X.1 hl hH (r := ()) (As := [.int x2, .int 0, .int 15]) (rest := []) (c_X10_checkWithin l X.1.2.2.2.2.2.2.1 σ x2 0 15 () hq104) (cw_S X.1 3 mw_268 mw_266 mw_267 mw_2 rfl rfl (by decide +kernel) ⟨Nat.le_of_ble_eq_true rfl, Nat.le_of_ble_eq_true rfl⟩) rfl rfl (Nat.le_of_ble_eq_true rfl) dX10_within_9 ⟨Nat.zero_le _, Nat.zero_le _⟩ (fun H locs hH => ?_)
  refine lv_iload_n hx hb dX10_within_12 rfl (lv_at hl 3 rfl) ?_
  refine lv_iconst (v := 0) hx hb dX10_within_13 (by decide) ?_
  refine lv_iconst (v := 1) hx hb dX10_within_14 (by decide) ?_
  obtain ⟨_, hq107, h⟩ := bnd_some h
  refine r_callSV X.1 hl hH (r := ()) (As := [.int x3, .int 0, .int 1]) (rest := []) (c_X10_checkWithin l X.1.2.2.2.2.2.2.1 σ x3 0 1 () hq107) (cw_S X.1 3 mw_268 mw_266 mw_267 mw_2 rfl rfl (by decide +kernel) ⟨Nat.le_of_ble_eq_true rfl, Nat.le_of_ble_eq_true rfl⟩) rfl rfl (Nat.le_of_ble_eq_true rfl) dX10_within_15 ⟨Nat.zero_le _, Nat.zero_le _⟩ (fun H locs hH => ?_)
  refine lv_aload_n hx hb dX10_within_18 rfl (lv_at hl 0 rfl) ?_
  refine r_get X.1 hH (by decide) rfl rfl inlX10 1 (by decide) (v := .ref (adr Γ 4)) rfl mw_17 dX10_within_19 ?_
  refine r_get X.1 hH (by decide) rfl rfl inlX4 2 (by decide) (v := .ref (adr Γ 6)) rfl mw_663 dX10_within_22 ?_
  refine lv_iload_n hx hb dX10_within_25 rfl (lv_at hl 1 rfl) ?_
  refine lv_bipush (v := 16) hx hb dX10_within_26 (by decide) ?_
  refine lv_imul hx hb dX10_within_28 ?_
  refine lv_iload_n hx hb dX10_within_29 rfl (lv_at hl 2 rfl) ?_
  refine lv_iadd hx hb dX10_within_30 ?_
  obtain ⟨hg110, h⟩ := chk_some h
  refine r_ild X.1 hH (by decide) rfl hg110 dX10_within_31 ?_
  refine lv_iload_n hx hb dX10_within_32 rfl (lv_at hl 3 rfl) ?_
  obtain ⟨r112, hq111, h⟩ := bnd_some h
  refine r_callSI X.1 hl hH (As := [.int (σ.1 7 0 ((x1 * (16 : Int32)) + x2).toNatClampNeg), .int x3]) (rest := []) (c_X10_partOf l X.1.2.2.2.2.2.2.1 σ (σ.1 7 0 ((x1 * (16 : Int32)) + x2).toNatClampNeg) x3 _ hq111) (cw_S X.1 2 mw_609 mw_607 mw_608 mw_2 rfl rfl (by decide +kernel) ⟨Nat.le_of_ble_eq_true rfl, Nat.le_of_ble_eq_true rfl⟩) rfl rfl (Nat.le_of_ble_eq_true rfl) dX10_within_33 ⟨Nat.zero_le _, Nat.zero_le _⟩ (fun H locs hH => ?_)
  cases h
  exact e_int X hH rfl dX10_within_36
/-- CutoffMill$Works.stateOf(I)LCutoffMill$Result; -/
def m_X9_stateOf (σ : Sg) (i0 : Nat) (x1 : Int32) : Option Nat := chk (inb (x1 / (16 : Int32)) (lenP 0 i0)) (bnd (σ.2.2 0 i0 (x1 / (16 : Int32)).toNatClampNeg) (fun r102 => chk (decide (r102 < 30)) (some r102)))
set_option maxHeartbeats 4000000 in
set_option maxRecDepth 100000 in
theorem c_X9_stateOf (l : Launch) {Γ : GG} (hJ : IJ Γ) (σ : Sg) (i0 : Nat) (hi0 : i0 < 2) (x1 : Int32) (rf : Nat) (h : m_X9_stateOf σ i0 x1 = some rf) : CR l yX9_stateOf (wy yX9_stateOf cX9_stateOf 2 (some (.object "CutoffMill$Result"))) { frames := 0, cells := 0, slots := 0, locals := 0 } Γ σ [.ref (adr Γ (kW i0)), .int x1] σ rf := by
  refine met_of (by decide +kernel) hJ (Nat.le_of_ble_eq_true rfl) (fun p e s m below meth c ls X hH hl => ?_)
  have hl : lv_has ls 2 [(0, .ref (adr Γ (kW i0))), (1, .int x1)] := hl
  have hx := X.1.1
  have hb := X.1.2.1
  rw [m_X9_stateOf] at h
  refine lv_aload_n hx hb dX9_stateOf_0 rfl (lv_at hl 0 rfl) ?_
  refine r_get X.1 hH (kW_lt hi0) (dW0 _ hi0) rfl inlX9 5 (by decide) (v := .ref (adr Γ (kW i0 + 3))) rfl mw_63 dX9_stateOf_1 ?_
  refine lv_iload_n hx hb dX9_stateOf_4 rfl (lv_at hl 1 rfl) ?_
  refine lv_bipush (v := 16) hx hb dX9_stateOf_5 (by decide) ?_
  refine lv_idiv hx hb dX9_stateOf_7 (by decide) ?_
  obtain ⟨hg101, h⟩ := chk_some h
  obtain ⟨r102, he103, h⟩ := bnd_some h
  obtain ⟨hr102, h⟩ := chk_some h
  replace hr102 := of_decide_eq_true hr102
  refine r_ald X.1 hH (lW _ hi0 3 (by decide)) (dW3 _ hi0) hg101 he103 dX9_stateOf_8 ?_
  cases h
  exact e_ref X hH dX9_stateOf_9
/-- CutoffMill$Answer.trait(JI)I -/
def m_X0_trait (σ : Sg) (x0 : Int64) (x2 : Int32) : Option Int32 := if x2.toInt = 2 then some (((x0 >>> ((8 : Int32).toInt64 &&& 63)) &&& (1 : Int64) : Int64).toInt32) else if x2.toInt = 3 then some (((x0 >>> ((9 : Int32).toInt64 &&& 63)) &&& (1 : Int64) : Int64).toInt32) else if x2.toInt = 4 then some (((x0 >>> ((10 : Int32).toInt64 &&& 63)) &&& (1 : Int64) : Int64).toInt32) else some ((x0 >>> ((11 : Int32).toInt64 &&& 63) : Int64).toInt32)
set_option maxHeartbeats 4000000 in
set_option maxRecDepth 100000 in
theorem c_X0_trait (l : Launch) {Γ : GG} (hJ : IJ Γ) (σ : Sg) (x0 : Int64) (x2 : Int32) (rf : Int32) (h : m_X0_trait σ x0 x2 = some rf) : CI l yX0_trait (wy yX0_trait cX0_trait 3 (some .int)) { frames := 0, cells := 0, slots := 0, locals := 0 } Γ σ [.long x0, .int x2] σ rf := by
  refine met_of (by decide +kernel) hJ (Nat.le_of_ble_eq_true rfl) (fun p e s m below meth c ls X hH hl => ?_)
  have hl : lv_has ls 3 [(0, .long x0), (2, .int x2)] := hl
  have hx := X.1.1
  have hb := X.1.2.1
  rw [m_X0_trait] at h
  refine lv_iload_n hx hb dX0_trait_0 rfl (lv_at hl 1 rfl) ?_
  by_cases hc : x2.toInt = 2
  · replace h := if_t h hc
    refine lv_tableIn (tgt := 28) hx hb dX0_trait_1 (by rw [hc]; decide) (by rw [hc]; decide) (by rw [hc]; rfl) (by decide) ?_
    refine lv_lload_n hx hb dX0_trait_28 rfl (lv_at hl 0 rfl) ?_
    refine lv_bipush (v := 8) hx hb dX0_trait_29 (by decide) ?_
    refine lv_lshr (v := x0 >>> ((8 : Int32).toInt64 &&& 63)) hx hb dX0_trait_31 rfl ?_
    refine lv_lconst (v := 1) hx hb dX0_trait_32 (by decide) ?_
    refine lv_land hx hb dX0_trait_33 ?_
    refine lv_l2i (v := ((x0 >>> ((8 : Int32).toInt64 &&& 63)) &&& (1 : Int64) : Int64).toInt32) hx hb dX0_trait_34 rfl ?_
    cases h
    exact e_int X hH rfl dX0_trait_35
  · replace h := if_f h hc
    have hn0 := hc
    by_cases hc : x2.toInt = 3
    · replace h := if_t h hc
      refine lv_tableIn (tgt := 36) hx hb dX0_trait_1 (by rw [hc]; decide) (by rw [hc]; decide) (by rw [hc]; rfl) (by decide) ?_
      refine lv_lload_n hx hb dX0_trait_36 rfl (lv_at hl 0 rfl) ?_
      refine lv_bipush (v := 9) hx hb dX0_trait_37 (by decide) ?_
      refine lv_lshr (v := x0 >>> ((9 : Int32).toInt64 &&& 63)) hx hb dX0_trait_39 rfl ?_
      refine lv_lconst (v := 1) hx hb dX0_trait_40 (by decide) ?_
      refine lv_land hx hb dX0_trait_41 ?_
      refine lv_l2i (v := ((x0 >>> ((9 : Int32).toInt64 &&& 63)) &&& (1 : Int64) : Int64).toInt32) hx hb dX0_trait_42 rfl ?_
      cases h
      exact e_int X hH rfl dX0_trait_43
    · replace h := if_f h hc
      have hn1 := hc
      by_cases hc : x2.toInt = 4
      · replace h := if_t h hc
        refine lv_tableIn (tgt := 44) hx hb dX0_trait_1 (by rw [hc]; decide) (by rw [hc]; decide) (by rw [hc]; rfl) (by decide) ?_
        refine lv_lload_n hx hb dX0_trait_44 rfl (lv_at hl 0 rfl) ?_
        refine lv_bipush (v := 10) hx hb dX0_trait_45 (by decide) ?_
        refine lv_lshr (v := x0 >>> ((10 : Int32).toInt64 &&& 63)) hx hb dX0_trait_47 rfl ?_
        refine lv_lconst (v := 1) hx hb dX0_trait_48 (by decide) ?_
        refine lv_land hx hb dX0_trait_49 ?_
        refine lv_l2i (v := ((x0 >>> ((10 : Int32).toInt64 &&& 63)) &&& (1 : Int64) : Int64).toInt32) hx hb dX0_trait_50 rfl ?_
        cases h
        exact e_int X hH rfl dX0_trait_51
      · replace h := if_f h hc
        have hn2 := hc
        refine lv_tableOut (tgt := 52) hx hb dX0_trait_1 (by omega) (by decide) ?_
        refine lv_lload_n hx hb dX0_trait_52 rfl (lv_at hl 0 rfl) ?_
        refine lv_bipush (v := 11) hx hb dX0_trait_53 (by decide) ?_
        refine lv_lshr (v := x0 >>> ((11 : Int32).toInt64 &&& 63)) hx hb dX0_trait_55 rfl ?_
        refine lv_l2i (v := (x0 >>> ((11 : Int32).toInt64 &&& 63) : Int64).toInt32) hx hb dX0_trait_56 rfl ?_
        cases h
        exact e_int X hH rfl dX0_trait_57
/-- CutoffMill.outside(III)I -/
def m_X10_outside (σ : Sg) (x1 : Int32) (x2 : Int32) (x3 : Int32) : Option Int32 := bnd (m_X10_checkModule σ x1) (fun _ => bnd (m_X10_checkWithin σ x2 0 15) (fun _ => bnd (m_X10_checkWithin σ x3 0 5) (fun _ => chk (inb ((x1 * (16 : Int32)) + x2) 128) (if 1 < x3 then if 0 ≤ (σ.1 6 0 ((x1 * (16 : Int32)) + x2).toNatClampNeg) then bnd (m_X9_stateOf σ 0 (σ.1 6 0 ((x1 * (16 : Int32)) + x2).toNatClampNeg)) (fun r112 => chk (decide (r112 < 30)) (chk (inb (σ.1 6 0 ((x1 * (16 : Int32)) + x2).toNatClampNeg) 128) (bnd (m_X0_trait σ (σ.2.1 1 r112 (σ.1 6 0 ((x1 * (16 : Int32)) + x2).toNatClampNeg).toNatClampNeg) x3) (fun r116 => some r116)))) else some 0 else bnd (m_X10_partOf σ (σ.1 6 0 ((x1 * (16 : Int32)) + x2).toNatClampNeg) x3) (fun r119 => some r119)))))
set_option maxHeartbeats 4000000 in
set_option maxRecDepth 100000 in
theorem c_X10_outside (l : Launch) {Γ : GG} (hJ : IJ Γ) (σ : Sg) (x1 : Int32) (x2 : Int32) (x3 : Int32) (rf : Int32) (h : m_X10_outside σ x1 x2 x3 = some rf) : CI l yX10_outside (wy yX10_outside cX10_outside 5 (some .int)) { frames := 1, cells := 0, slots := 0, locals := 22 } Γ σ [.ref (adr Γ 0), .int x1, .int x2, .int x3] σ rf := by
  refine met_of (by decide +kernel) hJ (Nat.le_of_ble_eq_true rfl) (fun p e s m below meth c ls X hH hl => ?_)
  have hl : lv_has ls 5 [(0, .ref (adr Γ 0)), (1, .int x1), (2, .int x2), (3, .int x3)] := hl
  have hx := X.1.1
  have hb := X.1.2.1
  rw [m_X10_outside] at h
  refine lv_aload_n hx hb dX10_outside_0 rfl (lv_at hl 0 rfl) ?_
  refine lv_iload_n hx hb dX10_outside_1 rfl (lv_at hl 1 rfl) ?_
  obtain ⟨_, hq101, h⟩ := bnd_some h
  refine r_callVV X.1 hl hH (r := ()) (As := [.int x1]) (rest := []) (c_X10_checkModule l X.1.2.2.2.2.2.2.1 σ x1 () hq101) (cw_V X.1 1 mw_263 mw_260 mw_261 mw_262 mw_2 rfl rfl (by decide +kernel) ⟨Nat.le_of_ble_eq_true rfl, Nat.le_of_ble_eq_true rfl⟩) (r_recv X.1 hH (by decide) rfl rfl) rfl rfl (Nat.le_of_ble_eq_true rfl) dX10_outside_2 ⟨Nat.zero_le _, Nat.zero_le _⟩ (fun H locs hH => ?_)
  refine lv_iload_n hx hb dX10_outside_5 rfl (lv_at hl 2 rfl) ?_
  refine lv_iconst (v := 0) hx hb dX10_outside_6 (by decide) ?_
  refine lv_bipush (v := 15) hx hb dX10_outside_7 (by decide) ?_
  obtain ⟨_, hq104, h⟩ := bnd_some h
  refine r_callSV X.1 hl hH (r := ()) (As := [.int x2, .int 0, .int 15]) (rest := []) (c_X10_checkWithin l X.1.2.2.2.2.2.2.1 σ x2 0 15 () hq104) (cw_S X.1 3 mw_268 mw_266 mw_267 mw_2 rfl rfl (by decide +kernel) ⟨Nat.le_of_ble_eq_true rfl, Nat.le_of_ble_eq_true rfl⟩) rfl rfl (Nat.le_of_ble_eq_true rfl) dX10_outside_9 ⟨Nat.zero_le _, Nat.zero_le _⟩ (fun H locs hH => ?_)
  refine lv_iload_n hx hb dX10_outside_12 rfl (lv_at hl 3 rfl) ?_
  refine lv_iconst (v := 0) hx hb dX10_outside_13 (by decide) ?_
  refine lv_iconst (v := 5) hx hb dX10_outside_14 (by decide) ?_
  obtain ⟨_, hq107, h⟩ := bnd_some h
  refine r_callSV X.1 hl hH (r := ()) (As := [.int x3, .int 0, .int 5]) (rest := []) (c_X10_checkWithin l X.1.2.2.2.2.2.2.1 σ x3 0 5 () hq107) (cw_S X.1 3 mw_268 mw_266 mw_267 mw_2 rfl rfl (by decide +kernel) ⟨Nat.le_of_ble_eq_true rfl, Nat.le_of_ble_eq_true rfl⟩) rfl rfl (Nat.le_of_ble_eq_true rfl) dX10_outside_15 ⟨Nat.zero_le _, Nat.zero_le _⟩ (fun H locs hH => ?_)
  refine lv_aload_n hx hb dX10_outside_18 rfl (lv_at hl 0 rfl) ?_
  refine r_get X.1 hH (by decide) rfl rfl inlX10 1 (by decide) (v := .ref (adr Γ 4)) rfl mw_17 dX10_outside_19 ?_
  refine r_get X.1 hH (by decide) rfl rfl inlX4 1 (by decide) (v := .ref (adr Γ 5)) rfl mw_668 dX10_outside_22 ?_
  refine lv_iload_n hx hb dX10_outside_25 rfl (lv_at hl 1 rfl) ?_
  refine lv_bipush (v := 16) hx hb dX10_outside_26 (by decide) ?_
  refine lv_imul hx hb dX10_outside_28 ?_
  refine lv_iload_n hx hb dX10_outside_29 rfl (lv_at hl 2 rfl) ?_
  refine lv_iadd hx hb dX10_outside_30 ?_
  obtain ⟨hg110, h⟩ := chk_some h
  refine r_ild X.1 hH (by decide) rfl hg110 dX10_outside_31 ?_
  refine lv_istore (lv' := [(4, .int (σ.1 6 0 ((x1 * (16 : Int32)) + x2).toNatClampNeg)), (0, .ref (adr Γ 0)), (1, .int x1), (2, .int x2), (3, .int x3)]) hx hb dX10_outside_32 hl (by decide) rfl (fun ls hl => ?_)
  refine lv_iload_n hx hb dX10_outside_34 rfl (lv_at hl 4 rfl) ?_
  refine lv_iconst (v := 1) hx hb dX10_outside_35 (by decide) ?_
  refine lv_icmp_gt (tgt := 46) hx hb dX10_outside_36 (by decide) (fun hc => ?_) (fun hc => ?_)
  · replace h := if_t h hc
    refine lv_iload hx hb dX10_outside_46 (lv_at hl 0 rfl) ?_
    refine lv_if_ge (tgt := 55) hx hb dX10_outside_48 (by decide) (fun hc => ?_) (fun hc => ?_)
    · replace h := if_t h hc
      refine lv_aload_n hx hb dX10_outside_55 rfl (lv_at hl 1 rfl) ?_
      refine r_get X.1 hH (by decide) rfl rfl inlX10 3 (by decide) (v := .ref (adr Γ (kW 0))) rfl mw_25 dX10_outside_56 ?_
      refine lv_iload hx hb dX10_outside_59 (lv_at hl 0 rfl) ?_
      obtain ⟨r112, hq111, h⟩ := bnd_some h
      obtain ⟨hr112, h⟩ := chk_some h
      replace hr112 := of_decide_eq_true hr112
      refine r_callVR X.1 hl hH (As := [.int (σ.1 6 0 ((x1 * (16 : Int32)) + x2).toNatClampNeg)]) (rest := []) (c_X9_stateOf l X.1.2.2.2.2.2.2.1 σ 0 (by omega) (σ.1 6 0 ((x1 * (16 : Int32)) + x2).toNatClampNeg) _ hq111) (cw_V X.1 1 mw_569 mw_599 mw_567 mw_568 mw_24 rfl rfl (by decide +kernel) ⟨Nat.le_of_ble_eq_true rfl, Nat.le_of_ble_eq_true rfl⟩) (r_recv X.1 hH (kW_lt (by omega)) (dW0 _ (by omega)) rfl) rfl rfl (Nat.le_of_ble_eq_true rfl) dX10_outside_61 ⟨Nat.zero_le _, Nat.zero_le _⟩ (fun H locs hH => ?_)
      refine r_get X.1 hH (kR_lt hr112) (dR0 _ hr112) rfl inlX5 3 (by decide) (v := .ref (adr Γ (kR r112 + 2))) rfl mw_596 dX10_outside_64 ?_
      refine lv_iload hx hb dX10_outside_67 (lv_at hl 0 rfl) ?_
      obtain ⟨hg114, h⟩ := chk_some h
      refine r_lld X.1 hH (lR _ hr112 2 (by decide)) (dR2 _ hr112) hg114 dX10_outside_69 ?_
      refine lv_iload_n hx hb dX10_outside_70 rfl (lv_at hl 4 rfl) ?_
      obtain ⟨r116, hq115, h⟩ := bnd_some h
      refine r_callSI X.1 hl hH (As := [.long (σ.2.1 1 r112 (σ.1 6 0 ((x1 * (16 : Int32)) + x2).toNatClampNeg).toNatClampNeg), .int x3]) (rest := []) (c_X0_trait l X.1.2.2.2.2.2.2.1 σ (σ.2.1 1 r112 (σ.1 6 0 ((x1 * (16 : Int32)) + x2).toNatClampNeg).toNatClampNeg) x3 _ hq115) (cw_S X.1 2 mw_602 mw_600 mw_601 mw_107 rfl rfl (by decide +kernel) ⟨Nat.le_of_ble_eq_true rfl, Nat.le_of_ble_eq_true rfl⟩) rfl rfl (Nat.le_of_ble_eq_true rfl) dX10_outside_71 ⟨Nat.zero_le _, Nat.zero_le _⟩ (fun H locs hH => ?_)
      cases h
      exact e_int X hH rfl dX10_outside_74
    · replace h := if_f h hc
      refine lv_iconst (v := 0) hx hb dX10_outside_51 (by decide) ?_
      refine lv_goto (tgt := 74) hx hb dX10_outside_52 (by decide) ?_
      cases h
      exact e_int X hH rfl dX10_outside_74
  · replace h := if_f h hc
    refine lv_iload hx hb dX10_outside_39 (lv_at hl 0 rfl) ?_
    refine lv_iload_n hx hb dX10_outside_41 rfl (lv_at hl 4 rfl) ?_
    obtain ⟨r119, hq118, h⟩ := bnd_some h
    refine r_callSI X.1 hl hH (As := [.int (σ.1 6 0 ((x1 * (16 : Int32)) + x2).toNatClampNeg), .int x3]) (rest := []) (c_X10_partOf l X.1.2.2.2.2.2.2.1 σ (σ.1 6 0 ((x1 * (16 : Int32)) + x2).toNatClampNeg) x3 _ hq118) (cw_S X.1 2 mw_609 mw_607 mw_608 mw_2 rfl rfl (by decide +kernel) ⟨Nat.le_of_ble_eq_true rfl, Nat.le_of_ble_eq_true rfl⟩) rfl rfl (Nat.le_of_ble_eq_true rfl) dX10_outside_42 ⟨Nat.zero_le _, Nat.zero_le _⟩ (fun H locs hH => ?_)
    cases h
    exact e_int X hH rfl dX10_outside_45
def m_X9_placeInStore_10 (σ : Sg) (i0 : Nat) (x1 : Int32)  : Nat → Int32 → Option Int32
  | 0, _ => none
  | n + 1, x2 => if x2 < 0 then some ((-1)) else chk (inb x2 (lenP 1 i0)) (bnd (σ.2.2 1 i0 x2.toNatClampNeg) (fun r102 => chk (decide (r102 < 30)) (if (σ.1 30 r102 0) = x1 then bnd (m_X9_firstOtherText σ i0 r102) (fun r105 => if r105 = ((-1)) then bnd (m_X9_firstOtherAnswer σ i0 r102) (fun r108 => if r108 = ((-1)) then some x2 else m_X9_placeInStore_10 σ i0 x1 n (x2 + (-1))) else m_X9_placeInStore_10 σ i0 x1 n (x2 + (-1))) else m_X9_placeInStore_10 σ i0 x1 n (x2 + (-1)))))
set_option maxHeartbeats 4000000 in
set_option maxRecDepth 100000 in
theorem b_X9_placeInStore_10 {p : Program} {l : Launch} {e : Env} {s : State} {m : MethodId} {args : Array Value} {below : List Frame} {meth : Method} {c : Code} {Γ : GG} (X : MB Γ p s m args meth c cX9_placeInStore 4 RX9 (some .int)) (σ : Sg) {rf : Int32} (i0 : Nat) (hi0 : i0 < 2) (x1 : Int32) : ∀ (n : Nat), (∀ (x2 : Int32), (m_X9_placeInStore_10 σ i0 x1 n) x2 = some rf → ∀ (H : Heap) (locs : List Loc) (ls : Array Slot), HW (IA Γ) Γ σ s.heap H locs → lv_has ls 4 [(0, .ref (adr Γ (kW i0))), (1, .int x1), (2, .int x2)] → W p l e ({ frames := 3, cells := 0, slots := 0, locals := 67 } : Room) s m args below meth c H locs 0 0 (QI Γ σ rf below args s) (F0 m 10 ls [])) := by
  have hx := X.1.1
  have hb := X.1.2.1
  intro n
  induction n with
  | zero => intro x2 h; rw [m_X9_placeInStore_10] at h; cases h
  | succ n ih =>
    intro x2 h H locs ls hH hl
    rw [m_X9_placeInStore_10] at h
    refine lv_iload_n hx hb dX9_placeInStore_10 rfl (lv_at hl 2 rfl) ?_
    refine lv_if_lt (tgt := 58) hx hb dX9_placeInStore_11 (by decide) (fun hc => ?_) (fun hc => ?_)
    · replace h := if_t h hc
      refine lv_iconst (v := (-1)) hx hb dX9_placeInStore_58 (by decide) ?_
      cases h
      exact e_int X hH rfl dX9_placeInStore_59
    · replace h := if_f h hc
      refine lv_aload_n hx hb dX9_placeInStore_14 rfl (lv_at hl 0 rfl) ?_
      refine r_get X.1 hH (kW_lt hi0) (dW0 _ hi0) rfl inlX9 4 (by decide) (v := .ref (adr Γ (kW i0 + 1))) rfl mw_70 dX9_placeInStore_15 ?_
      refine r_get X.1 hH (lW _ hi0 1 (by decide)) (dW1 _ hi0) rfl inlX7 0 (by decide) (v := .ref (adr Γ (kW i0 + 2))) rfl mw_391 dX9_placeInStore_18 ?_
      refine lv_iload_n hx hb dX9_placeInStore_21 rfl (lv_at hl 2 rfl) ?_
      obtain ⟨hg101, h⟩ := chk_some h
      obtain ⟨r102, he103, h⟩ := bnd_some h
      obtain ⟨hr102, h⟩ := chk_some h
      replace hr102 := of_decide_eq_true hr102
      refine r_ald X.1 hH (lW _ hi0 2 (by decide)) (dW2 _ hi0) hg101 he103 dX9_placeInStore_22 ?_
      refine lv_astore_n (lv' := [(3, .ref (adr Γ (kR r102))), (0, .ref (adr Γ (kW i0))), (1, .int x1), (2, .int x2)]) hx hb dX9_placeInStore_23 rfl hl (by decide) rfl (fun ls hl => ?_)
      refine lv_aload_n hx hb dX9_placeInStore_24 rfl (lv_at hl 0 rfl) ?_
      refine r_get X.1 hH (kR_lt hr102) (dR0 _ hr102) rfl inlX5 0 (by decide) (v := .int (σ.1 30 r102 0)) rfl mw_298 dX9_placeInStore_25 ?_
      refine lv_iload_n hx hb dX9_placeInStore_28 rfl (lv_at hl 2 rfl) ?_
      refine lv_icmp_ne (tgt := 52) hx hb dX9_placeInStore_29 (by decide) (fun hc => ?_) (fun hc => ?_)
      · replace h := if_f h hc
        refine lv_iinc (v := x2 + (-1)) (lv' := [(2, .int (x2 + (-1))), (3, .ref (adr Γ (kR r102))), (0, .ref (adr Γ (kW i0))), (1, .int x1)]) hx hb dX9_placeInStore_52 hl (k := 3) rfl rfl (by decide) rfl (fun ls hl => ?_)
        refine lv_goto (tgt := 10) hx hb dX9_placeInStore_55 (by decide) ?_
        exact ih  (x2 + (-1)) h _ _ _ hH (lv_sub hl [2, 3, 0] rfl)
      · replace h := if_t h hc
        refine lv_aload_n hx hb dX9_placeInStore_32 rfl (lv_at hl 1 rfl) ?_
        refine lv_aload_n hx hb dX9_placeInStore_33 rfl (lv_at hl 0 rfl) ?_
        obtain ⟨r105, hq104, h⟩ := bnd_some h
        refine r_callVI X.1 hl hH (As := [.ref (adr Γ (kR r102))]) (rest := []) (c_X9_firstOtherText l X.1.2.2.2.2.2.2.1 σ i0 hi0 r102 hr102 _ hq104) (cw_V X.1 1 mw_312 mw_309 mw_310 mw_311 mw_24 rfl rfl (by decide +kernel) ⟨Nat.le_of_ble_eq_true rfl, Nat.le_of_ble_eq_true rfl⟩) (r_recv X.1 hH (kW_lt hi0) (dW0 _ hi0) rfl) rfl rfl (Nat.le_of_ble_eq_true rfl) dX9_placeInStore_34 ⟨Nat.zero_le _, Nat.zero_le _⟩ (fun H locs hH => ?_)
        refine lv_iconst (v := (-1)) hx hb dX9_placeInStore_37 (by decide) ?_
        refine lv_icmp_ne (tgt := 52) hx hb dX9_placeInStore_38 (by decide) (fun hc => ?_) (fun hc => ?_)
        · replace h := if_f h hc
          refine lv_iinc (v := x2 + (-1)) (lv' := [(2, .int (x2 + (-1))), (3, .ref (adr Γ (kR r102))), (0, .ref (adr Γ (kW i0))), (1, .int x1)]) hx hb dX9_placeInStore_52 hl (k := 3) rfl rfl (by decide) rfl (fun ls hl => ?_)
          refine lv_goto (tgt := 10) hx hb dX9_placeInStore_55 (by decide) ?_
          exact ih  (x2 + (-1)) h _ _ _ hH (lv_sub hl [2, 3, 0] rfl)
        · replace h := if_t h hc
          refine lv_aload_n hx hb dX9_placeInStore_41 rfl (lv_at hl 1 rfl) ?_
          refine lv_aload_n hx hb dX9_placeInStore_42 rfl (lv_at hl 0 rfl) ?_
          obtain ⟨r108, hq107, h⟩ := bnd_some h
          refine r_callVI X.1 hl hH (As := [.ref (adr Γ (kR r102))]) (rest := []) (c_X9_firstOtherAnswer l X.1.2.2.2.2.2.2.1 σ i0 hi0 r102 hr102 _ hq107) (cw_V X.1 1 mw_322 mw_319 mw_320 mw_321 mw_24 rfl rfl (by decide +kernel) ⟨Nat.le_of_ble_eq_true rfl, Nat.le_of_ble_eq_true rfl⟩) (r_recv X.1 hH (kW_lt hi0) (dW0 _ hi0) rfl) rfl rfl (Nat.le_of_ble_eq_true rfl) dX9_placeInStore_43 ⟨Nat.zero_le _, Nat.zero_le _⟩ (fun H locs hH => ?_)
          refine lv_iconst (v := (-1)) hx hb dX9_placeInStore_46 (by decide) ?_
          refine lv_icmp_ne (tgt := 52) hx hb dX9_placeInStore_47 (by decide) (fun hc => ?_) (fun hc => ?_)
          · replace h := if_f h hc
            refine lv_iinc (v := x2 + (-1)) (lv' := [(2, .int (x2 + (-1))), (3, .ref (adr Γ (kR r102))), (0, .ref (adr Γ (kW i0))), (1, .int x1)]) hx hb dX9_placeInStore_52 hl (k := 3) rfl rfl (by decide) rfl (fun ls hl => ?_)
            refine lv_goto (tgt := 10) hx hb dX9_placeInStore_55 (by decide) ?_
            exact ih  (x2 + (-1)) h _ _ _ hH (lv_sub hl [2, 3, 0] rfl)
          · replace h := if_t h hc
            refine lv_iload_n hx hb dX9_placeInStore_50 rfl (lv_at hl 3 rfl) ?_
            cases h
            exact e_int X hH rfl dX9_placeInStore_51
/-- CutoffMill$Works.placeInStore(I)I -/
def m_X9_placeInStore (σ : Sg) (i0 : Nat) (x1 : Int32) : Option Int32 := m_X9_placeInStore_10 σ i0 x1 1000 ((σ.1 19 i0 0) - (1 : Int32))
set_option maxHeartbeats 4000000 in
set_option maxRecDepth 100000 in
theorem c_X9_placeInStore (l : Launch) {Γ : GG} (hJ : IJ Γ) (σ : Sg) (i0 : Nat) (hi0 : i0 < 2) (x1 : Int32) (rf : Int32) (h : m_X9_placeInStore σ i0 x1 = some rf) : CI l yX9_placeInStore (wy yX9_placeInStore cX9_placeInStore 4 (some .int)) { frames := 3, cells := 0, slots := 0, locals := 67 } Γ σ [.ref (adr Γ (kW i0)), .int x1] σ rf := by
  refine met_of (by decide +kernel) hJ (Nat.le_of_ble_eq_true rfl) (fun p e s m below meth c ls X hH hl => ?_)
  have hl : lv_has ls 4 [(0, .ref (adr Γ (kW i0))), (1, .int x1)] := hl
  have hx := X.1.1
  have hb := X.1.2.1
  rw [m_X9_placeInStore] at h
  refine lv_aload_n hx hb dX9_placeInStore_0 rfl (lv_at hl 0 rfl) ?_
  refine r_get X.1 hH (kW_lt hi0) (dW0 _ hi0) rfl inlX9 4 (by decide) (v := .ref (adr Γ (kW i0 + 1))) rfl mw_70 dX9_placeInStore_1 ?_
  refine r_get X.1 hH (lW _ hi0 1 (by decide)) (dW1 _ hi0) rfl inlX7 1 (by decide) (v := .int (σ.1 19 i0 0)) rfl mw_396 dX9_placeInStore_4 ?_
  refine lv_iconst (v := 1) hx hb dX9_placeInStore_7 (by decide) ?_
  refine lv_isub hx hb dX9_placeInStore_8 ?_
  refine lv_istore_n (lv' := [(2, .int ((σ.1 19 i0 0) - (1 : Int32))), (0, .ref (adr Γ (kW i0))), (1, .int x1)]) hx hb dX9_placeInStore_9 rfl hl (by decide) rfl (fun ls hl => ?_)
  exact b_X9_placeInStore_10 X σ i0 hi0 x1  1000  ((σ.1 19 i0 0) - (1 : Int32)) h _ _ _ hH (lv_sub hl [1, 2, 0] rfl)
def m_X7_takeOut_12 (i0 : Nat) (x1 : Int32)  : Nat → Sg → Int32 → Option Sg
  | 0, _, _ => none
  | n + 1, σ, x2 => if (σ.1 19 i0 0) ≤ x2 then some σ else chk (inb (x2 + (1 : Int32)) (lenP 1 i0)) (bnd (σ.2.2 1 i0 (x2 + (1 : Int32)).toNatClampNeg) (fun r104 => chk (decide (r104 < 30)) (chk (inb x2 (lenP 1 i0)) (st (wP σ 1 i0 x2.toNatClampNeg r104) (fun σ107 => m_X7_takeOut_12 i0 x1 n σ107 (x2 + 1))))))
set_option maxHeartbeats 4000000 in
set_option maxRecDepth 100000 in
theorem b_X7_takeOut_12 {p : Program} {l : Launch} {e : Env} {s : State} {m : MethodId} {args : Array Value} {below : List Frame} {meth : Method} {c : Code} {Γ : GG} (X : MB Γ p s m args meth c cX7_takeOut 3 RX7 none) {σf : Sg} {rf : Unit} (i0 : Nat) (hi0 : i0 < 2) (x1 : Int32) : ∀ (n : Nat), (∀ (σ : Sg) (x2 : Int32), (m_X7_takeOut_12 i0 x1 n) σ x2 = some σf → ∀ (H : Heap) (locs : List Loc) (ls : Array Slot), HW (IA Γ) Γ σ s.heap H locs → lv_has ls 3 [(0, .ref (adr Γ (kW i0 + 1))), (2, .int x2)] → W p l e ({ frames := 0, cells := 0, slots := 0, locals := 0 } : Room) s m args below meth c H locs 0 0 (QV Γ σf rf below args s) (F0 m 12 ls [])) := by
  have hx := X.1.1
  have hb := X.1.2.1
  intro n
  induction n with
  | zero => intro σ x2 h; rw [m_X7_takeOut_12] at h; cases h
  | succ n ih =>
    intro σ x2 h H locs ls hH hl
    rw [m_X7_takeOut_12] at h
    refine lv_iload_n hx hb dX7_takeOut_12 rfl (lv_at hl 1 rfl) ?_
    refine lv_aload_n hx hb dX7_takeOut_13 rfl (lv_at hl 0 rfl) ?_
    refine r_get X.1 hH (lW _ hi0 1 (by decide)) (dW1 _ hi0) rfl inlX7 1 (by decide) (v := .int (σ.1 19 i0 0)) rfl mw_405 dX7_takeOut_14 ?_
    refine lv_icmp_ge (tgt := 40) hx hb dX7_takeOut_17 (by decide) (fun hc => ?_) (fun hc => ?_)
    · replace h := if_t h hc
      cases h
      exact e_void (v := rf) X hH dX7_takeOut_40
    · replace h := if_f h hc
      refine lv_aload_n hx hb dX7_takeOut_20 rfl (lv_at hl 0 rfl) ?_
      refine r_get X.1 hH (lW _ hi0 1 (by decide)) (dW1 _ hi0) rfl inlX7 0 (by decide) (v := .ref (adr Γ (kW i0 + 2))) rfl mw_84 dX7_takeOut_21 ?_
      refine lv_iload_n hx hb dX7_takeOut_24 rfl (lv_at hl 1 rfl) ?_
      refine lv_aload_n hx hb dX7_takeOut_25 rfl (lv_at hl 0 rfl) ?_
      refine r_get X.1 hH (lW _ hi0 1 (by decide)) (dW1 _ hi0) rfl inlX7 0 (by decide) (v := .ref (adr Γ (kW i0 + 2))) rfl mw_84 dX7_takeOut_26 ?_
      refine lv_iload_n hx hb dX7_takeOut_29 rfl (lv_at hl 1 rfl) ?_
      refine lv_iconst (v := 1) hx hb dX7_takeOut_30 (by decide) ?_
      refine lv_iadd hx hb dX7_takeOut_31 ?_
      obtain ⟨hg103, h⟩ := chk_some h
      obtain ⟨r104, he105, h⟩ := bnd_some h
      obtain ⟨hr104, h⟩ := chk_some h
      replace hr104 := of_decide_eq_true hr104
      refine r_ald X.1 hH (lW _ hi0 2 (by decide)) (dW2 _ hi0) hg103 he105 dX7_takeOut_32 ?_
      obtain ⟨hg106, h⟩ := chk_some h
      obtain ⟨σ107, e108, h⟩ := st_some h
      refine r_ast X.1 hH (lW _ hi0 2 (by decide)) (dW2 _ hi0) hg106 hr104 dX7_takeOut_33 (fun H locs hH => ?_)
      replace hH : HW (IA Γ) Γ σ107 s.heap H locs := by rw [e108]; exact hH
      refine lv_iinc (v := x2 + 1) (lv' := [(2, .int (x2 + 1)), (0, .ref (adr Γ (kW i0 + 1)))]) hx hb dX7_takeOut_34 hl (k := 1) rfl rfl (by decide) rfl (fun ls hl => ?_)
      refine lv_goto (tgt := 12) hx hb dX7_takeOut_37 (by decide) ?_
      exact ih σ107 (x2 + 1) h _ _ _ hH (lv_sub hl [1, 0] rfl)
/-- CutoffMill$Store.takeOut(I)V -/
def m_X7_takeOut (σ : Sg) (i0 : Nat) (x1 : Int32) : Option Sg := st (wI σ 19 i0 0 ((σ.1 19 i0 0) - (1 : Int32))) (fun σ101 => m_X7_takeOut_12 i0 x1 1000 σ101 x1)
set_option maxHeartbeats 4000000 in
set_option maxRecDepth 100000 in
theorem c_X7_takeOut (l : Launch) {Γ : GG} (hJ : IJ Γ) (σ : Sg) (i0 : Nat) (hi0 : i0 < 2) (x1 : Int32) (σf : Sg) (rf : Unit) (h : m_X7_takeOut σ i0 x1 = some σf) : CV l yX7_takeOut (wy yX7_takeOut cX7_takeOut 3 none) { frames := 0, cells := 0, slots := 0, locals := 0 } Γ σ [.ref (adr Γ (kW i0 + 1)), .int x1] σf rf := by
  refine met_of (by decide +kernel) hJ (Nat.le_of_ble_eq_true rfl) (fun p e s m below meth c ls X hH hl => ?_)
  have hl : lv_has ls 3 [(0, .ref (adr Γ (kW i0 + 1))), (1, .int x1)] := hl
  have hx := X.1.1
  have hb := X.1.2.1
  rw [m_X7_takeOut] at h
  refine lv_aload_n hx hb dX7_takeOut_0 rfl (lv_at hl 0 rfl) ?_
  refine lv_dup hx hb dX7_takeOut_1 rfl ?_
  refine r_get X.1 hH (lW _ hi0 1 (by decide)) (dW1 _ hi0) rfl inlX7 1 (by decide) (v := .int (σ.1 19 i0 0)) rfl mw_405 dX7_takeOut_2 ?_
  refine lv_iconst (v := 1) hx hb dX7_takeOut_5 (by decide) ?_
  refine lv_isub hx hb dX7_takeOut_6 ?_
  obtain ⟨σ101, e102, h⟩ := st_some h
  refine r_putI X.1 hH (co := 19) (lW _ hi0 1 (by decide)) rfl (dW1 _ hi0) rfl inlX7 tyX7 tyX7_ok nmX7 (by decide) (Nat.le_of_ble_eq_true rfl) rfl (by decide +kernel) mw_405 dX7_takeOut_7 (fun H locs hH => ?_)
  replace hH : HW (IA Γ) Γ σ101 s.heap H locs := by rw [e102]; exact hH
  refine lv_iload_n hx hb dX7_takeOut_10 rfl (lv_at hl 1 rfl) ?_
  refine lv_istore_n (lv' := [(2, .int x1), (0, .ref (adr Γ (kW i0 + 1))), (1, .int x1)]) hx hb dX7_takeOut_11 rfl hl (by decide) rfl (fun ls hl => ?_)
  exact b_X7_takeOut_12 (rf := ()) X i0 hi0 x1  1000 σ101 x1 h _ _ _ hH (lv_sub hl [1, 0] rfl)
