/-! WALKS, laid by wip/p23/gen.py: X8_removeImport, X10_leave, X6_smallestOf, J6_bitCount_0f7a4, X4_wantedBy, X9_firstUnbuilt, X9_wasInOtherRing, X9_resultOf, X8_isSame, X9_firstOtherText -/
def m_X8_removeImport_12 (i0 : Nat) (x1 : Int32) (x2 : Int32)  : Nat → Sg → Int32 → Option Sg
  | 0, _, _ => none
  | n + 1, σ, x3 => chk (inb x1 8) (if (σ.1 28 i0 x1.toNatClampNeg) ≤ x3 then some σ else chk (inb (((x1 * (5 : Int32)) + x3) + (1 : Int32)) 40) (chk (inb ((x1 * (5 : Int32)) + x3) 40) (st (wI σ 27 i0 ((x1 * (5 : Int32)) + x3).toNatClampNeg (σ.1 27 i0 (((x1 * (5 : Int32)) + x3) + (1 : Int32)).toNatClampNeg)) (fun σ108 => m_X8_removeImport_12 i0 x1 x2 n σ108 (x3 + 1)))))
set_option maxHeartbeats 4000000 in
set_option maxRecDepth 100000 in
theorem b_X8_removeImport_12 {p : Program} {l : Launch} {e : Env} {s : State} {m : MethodId} {args : Array Value} {below : List Frame} {meth : Method} {c : Code} {Γ : GG} (X : MB Γ p s m args meth c cX8_removeImport 4 RX8 none) {σf : Sg} {rf : Unit} (i0 : Nat) (hi0 : i0 < 32) (x1 : Int32) (x2 : Int32) : ∀ (n : Nat), (∀ (σ : Sg) (x3 : Int32), (m_X8_removeImport_12 i0 x1 x2 n) σ x3 = some σf → ∀ (H : Heap) (locs : List Loc) (ls : Array Slot), HW (IA Γ) Γ σ s.heap H locs → lv_has ls 4 [(0, .ref (adr Γ (kT i0))), (1, .int x1), (3, .int x3)] → W p l e ({ frames := 0, cells := 0, slots := 0, locals := 0 } : Room) s m args below meth c H locs 0 0 (QV Γ σf rf below args s) (F0 m 12 ls [])) := by
  have hx := X.1.1
  have hb := X.1.2.1
  intro n
  induction n with
  | zero => intro σ x3 h; rw [m_X8_removeImport_12] at h; cases h
  | succ n ih =>
    intro σ x3 h H locs ls hH hl
    rw [m_X8_removeImport_12] at h
    refine lv_iload_n hx hb dX8_removeImport_12 rfl (lv_at hl 2 rfl) ?_
    refine lv_aload_n hx hb dX8_removeImport_13 rfl (lv_at hl 0 rfl) ?_
    refine r_get X.1 hH (kT_lt (by omega)) (dT0 _ (by omega)) rfl inlX8 2 (by decide) (v := .ref (adr Γ (kT i0 + 3))) rfl mw_35 dX8_removeImport_14 ?_
    refine lv_iload_n hx hb dX8_removeImport_17 rfl (lv_at hl 1 rfl) ?_
    obtain ⟨hg105, h⟩ := chk_some h
    refine r_ild X.1 hH (lT3 _ (by omega)) (dT3 _ (by omega)) hg105 dX8_removeImport_18 ?_
    refine lv_icmp_ge (tgt := 50) hx hb dX8_removeImport_19 (by decide) (fun hc => ?_) (fun hc => ?_)
    · replace h := if_t h hc
      cases h
      exact e_void (v := rf) X hH dX8_removeImport_50
    · replace h := if_f h hc
      refine lv_aload_n hx hb dX8_removeImport_22 rfl (lv_at hl 0 rfl) ?_
      refine r_get X.1 hH (kT_lt (by omega)) (dT0 _ (by omega)) rfl inlX8 1 (by decide) (v := .ref (adr Γ (kT i0 + 2))) rfl mw_34 dX8_removeImport_23 ?_
      refine lv_iload_n hx hb dX8_removeImport_26 rfl (lv_at hl 1 rfl) ?_
      refine lv_iconst (v := 5) hx hb dX8_removeImport_27 (by decide) ?_
      refine lv_imul hx hb dX8_removeImport_28 ?_
      refine lv_iload_n hx hb dX8_removeImport_29 rfl (lv_at hl 2 rfl) ?_
      refine lv_iadd hx hb dX8_removeImport_30 ?_
      refine lv_aload_n hx hb dX8_removeImport_31 rfl (lv_at hl 0 rfl) ?_
      refine r_get X.1 hH (kT_lt (by omega)) (dT0 _ (by omega)) rfl inlX8 1 (by decide) (v := .ref (adr Γ (kT i0 + 2))) rfl mw_34 dX8_removeImport_32 ?_
      refine lv_iload_n hx hb dX8_removeImport_35 rfl (lv_at hl 1 rfl) ?_
      refine lv_iconst (v := 5) hx hb dX8_removeImport_36 (by decide) ?_
      refine lv_imul hx hb dX8_removeImport_37 ?_
      refine lv_iload_n hx hb dX8_removeImport_38 rfl (lv_at hl 2 rfl) ?_
      refine lv_iadd hx hb dX8_removeImport_39 ?_
      refine lv_iconst (v := 1) hx hb dX8_removeImport_40 (by decide) ?_
      refine lv_iadd hx hb dX8_removeImport_41 ?_
      obtain ⟨hg106, h⟩ := chk_some h
      refine r_ild X.1 hH (lT2 _ (by omega)) (dT2 _ (by omega)) hg106 dX8_removeImport_42 ?_
      obtain ⟨hg107, h⟩ := chk_some h
      obtain ⟨σ108, e109, h⟩ := st_some h
      refine r_ist X.1 hH (lT2 _ (by omega)) (dT2 _ (by omega)) hg107 dX8_removeImport_43 (fun H locs hH => ?_)
      replace hH : HW (IA Γ) Γ σ108 s.heap H locs := by rw [e109]; exact hH
      refine lv_iinc (v := x3 + 1) (lv' := [(3, .int (x3 + 1)), (0, .ref (adr Γ (kT i0))), (1, .int x1)]) hx hb dX8_removeImport_44 hl (k := 2) rfl rfl (by decide) rfl (fun ls hl => ?_)
      refine lv_goto (tgt := 12) hx hb dX8_removeImport_47 (by decide) ?_
      exact ih σ108 (x3 + 1) h _ _ _ hH (lv_sub hl [1, 2, 0] rfl)
/-- CutoffMill$Texts.removeImport(II)V -/
def m_X8_removeImport (σ : Sg) (i0 : Nat) (x1 : Int32) (x2 : Int32) : Option Sg := chk (inb x1 8) (chk (inb x1 8) (st (wI σ 28 i0 x1.toNatClampNeg ((σ.1 28 i0 x1.toNatClampNeg) - (1 : Int32))) (fun σ103 => m_X8_removeImport_12 i0 x1 x2 1000 σ103 x2)))
set_option maxHeartbeats 4000000 in
set_option maxRecDepth 100000 in
theorem c_X8_removeImport (l : Launch) {Γ : GG} (hJ : IJ Γ) (σ : Sg) (i0 : Nat) (hi0 : i0 < 32) (x1 : Int32) (x2 : Int32) (σf : Sg) (rf : Unit) (h : m_X8_removeImport σ i0 x1 x2 = some σf) : CV l yX8_removeImport (wy yX8_removeImport cX8_removeImport 4 none) { frames := 0, cells := 0, slots := 0, locals := 0 } Γ σ [.ref (adr Γ (kT i0)), .int x1, .int x2] σf rf := by
  refine met_of (by decide +kernel) hJ (Nat.le_of_ble_eq_true rfl) (fun p e s m below meth c ls X hH hl => ?_)
  have hl : lv_has ls 4 [(0, .ref (adr Γ (kT i0))), (1, .int x1), (2, .int x2)] := hl
  have hx := X.1.1
  have hb := X.1.2.1
  rw [m_X8_removeImport] at h
  refine lv_aload_n hx hb dX8_removeImport_0 rfl (lv_at hl 0 rfl) ?_
  refine r_get X.1 hH (kT_lt (by omega)) (dT0 _ (by omega)) rfl inlX8 2 (by decide) (v := .ref (adr Γ (kT i0 + 3))) rfl mw_35 dX8_removeImport_1 ?_
  refine lv_iload_n hx hb dX8_removeImport_4 rfl (lv_at hl 1 rfl) ?_
  refine lv_dup2_11 hx hb dX8_removeImport_5 rfl rfl ?_
  obtain ⟨hg101, h⟩ := chk_some h
  refine r_ild X.1 hH (lT3 _ (by omega)) (dT3 _ (by omega)) hg101 dX8_removeImport_6 ?_
  refine lv_iconst (v := 1) hx hb dX8_removeImport_7 (by decide) ?_
  refine lv_isub hx hb dX8_removeImport_8 ?_
  obtain ⟨hg102, h⟩ := chk_some h
  obtain ⟨σ103, e104, h⟩ := st_some h
  refine r_ist X.1 hH (lT3 _ (by omega)) (dT3 _ (by omega)) hg102 dX8_removeImport_9 (fun H locs hH => ?_)
  replace hH : HW (IA Γ) Γ σ103 s.heap H locs := by rw [e104]; exact hH
  refine lv_iload_n hx hb dX8_removeImport_10 rfl (lv_at hl 2 rfl) ?_
  refine lv_istore_n (lv' := [(3, .int x2), (0, .ref (adr Γ (kT i0))), (1, .int x1), (2, .int x2)]) hx hb dX8_removeImport_11 rfl hl (by decide) rfl (fun ls hl => ?_)
  exact b_X8_removeImport_12 (rf := ()) X i0 hi0 x1 x2  1000 σ103 x2 h _ _ _ hH (lv_sub hl [1, 2, 0] rfl)
/-- CutoffMill.leave(II)I -/
def m_X10_leave (σ : Sg) (x1 : Int32) (x2 : Int32) : Option (Sg × Int32) := bnd (m_X10_checkModule σ x1) (fun _ => if x2 < 0 then none else chk (inb x1 8) (if x2 < (σ.1 28 0 x1.toNatClampNeg) then bnd (m_X8_removeImport σ 0 x1 x2) (fun σ107 => bnd (m_X10_settle σ107) (fun σ110 => chk (inb x1 8) (some (σ110, σ110.1 28 0 x1.toNatClampNeg)))) else none))
set_option maxHeartbeats 4000000 in
set_option maxRecDepth 100000 in
theorem c_X10_leave (l : Launch) {Γ : GG} (hJ : IJ Γ) (σ : Sg) (x1 : Int32) (x2 : Int32) (σf : Sg) (rf : Int32) (h : m_X10_leave σ x1 x2 = some (σf, rf)) : CI l yX10_leave (wy yX10_leave cX10_leave 3 (some .int)) { frames := 6, cells := 0, slots := 0, locals := 132 } Γ σ [.ref (adr Γ 0), .int x1, .int x2] σf rf := by
  refine met_of (by decide +kernel) hJ (Nat.le_of_ble_eq_true rfl) (fun p e s m below meth c ls X hH hl => ?_)
  have hl : lv_has ls 3 [(0, .ref (adr Γ 0)), (1, .int x1), (2, .int x2)] := hl
  have hx := X.1.1
  have hb := X.1.2.1
  rw [m_X10_leave] at h
  refine lv_aload_n hx hb dX10_leave_0 rfl (lv_at hl 0 rfl) ?_
  refine lv_iload_n hx hb dX10_leave_1 rfl (lv_at hl 1 rfl) ?_
  obtain ⟨_, hq101, h⟩ := bnd_some h
  refine r_callVV X.1 hl hH (r := ()) (As := [.int x1]) (rest := []) (c_X10_checkModule l X.1.2.2.2.2.2.2.1 σ x1 () hq101) (cw_V X.1 1 mw_263 mw_260 mw_261 mw_262 mw_2 rfl rfl (by decide +kernel) ⟨Nat.le_of_ble_eq_true rfl, Nat.le_of_ble_eq_true rfl⟩) (r_recv X.1 hH (by decide) rfl rfl) rfl rfl (Nat.le_of_ble_eq_true rfl) dX10_leave_2 ⟨Nat.zero_le _, Nat.zero_le _⟩ (fun H locs hH => ?_)
  refine lv_iload_n hx hb dX10_leave_5 rfl (lv_at hl 2 rfl) ?_
  refine lv_if_lt (tgt := 22) hx hb dX10_leave_6 (by decide) (fun hc => ?_) (fun hc => ?_)
  · replace h := if_t h hc
    cases h
  · replace h := if_f h hc
    refine lv_iload_n hx hb dX10_leave_9 rfl (lv_at hl 2 rfl) ?_
    refine lv_aload_n hx hb dX10_leave_10 rfl (lv_at hl 0 rfl) ?_
    refine r_get X.1 hH (by decide) rfl rfl inlX10 0 (by decide) (v := .ref (adr Γ (kT 0))) rfl mw_13 dX10_leave_11 ?_
    refine r_get X.1 hH (kT_lt (by omega)) (dT0 _ (by omega)) rfl inlX8 2 (by decide) (v := .ref (adr Γ (kT 0 + 3))) rfl mw_257 dX10_leave_14 ?_
    refine lv_iload_n hx hb dX10_leave_17 rfl (lv_at hl 1 rfl) ?_
    obtain ⟨hg104, h⟩ := chk_some h
    refine r_ild X.1 hH (lT3 _ (by omega)) (dT3 _ (by omega)) hg104 dX10_leave_18 ?_
    refine lv_icmp_lt (tgt := 32) hx hb dX10_leave_19 (by decide) (fun hc => ?_) (fun hc => ?_)
    · replace h := if_t h hc
      refine lv_aload_n hx hb dX10_leave_32 rfl (lv_at hl 0 rfl) ?_
      refine r_get X.1 hH (by decide) rfl rfl inlX10 0 (by decide) (v := .ref (adr Γ (kT 0))) rfl mw_13 dX10_leave_33 ?_
      refine lv_iload_n hx hb dX10_leave_36 rfl (lv_at hl 1 rfl) ?_
      refine lv_iload_n hx hb dX10_leave_37 rfl (lv_at hl 2 rfl) ?_
      obtain ⟨σ107, hq105, h⟩ := bnd_some h
      refine r_callVV X.1 hl hH (r := ()) (As := [.int x1, .int x2]) (rest := []) (c_X8_removeImport l X.1.2.2.2.2.2.2.1 σ 0 (by omega) x1 x2 _ () hq105) (cw_V X.1 2 mw_344 mw_341 mw_342 mw_343 mw_12 rfl rfl (by decide +kernel) ⟨Nat.le_of_ble_eq_true rfl, Nat.le_of_ble_eq_true rfl⟩) (r_recv X.1 hH (kT_lt (by omega)) (dT0 _ (by omega)) rfl) rfl rfl (Nat.le_of_ble_eq_true rfl) dX10_leave_38 ⟨Nat.zero_le _, Nat.zero_le _⟩ (fun H locs hH => ?_)
      refine lv_aload_n hx hb dX10_leave_41 rfl (lv_at hl 0 rfl) ?_
      obtain ⟨σ110, hq108, h⟩ := bnd_some h
      refine r_callVV X.1 hl hH (r := ()) (As := []) (rest := []) (c_X10_settle l X.1.2.2.2.2.2.2.1 σ107  _ () hq108) (cw_V X.1 0 mw_141 mw_138 mw_139 mw_140 mw_2 rfl rfl (by decide +kernel) ⟨Nat.le_of_ble_eq_true rfl, Nat.le_of_ble_eq_true rfl⟩) (r_recv X.1 hH (by decide) rfl rfl) rfl rfl (Nat.le_of_ble_eq_true rfl) dX10_leave_42 ⟨Nat.zero_le _, Nat.zero_le _⟩ (fun H locs hH => ?_)
      refine lv_aload_n hx hb dX10_leave_45 rfl (lv_at hl 0 rfl) ?_
      refine r_get X.1 hH (by decide) rfl rfl inlX10 0 (by decide) (v := .ref (adr Γ (kT 0))) rfl mw_13 dX10_leave_46 ?_
      refine r_get X.1 hH (kT_lt (by omega)) (dT0 _ (by omega)) rfl inlX8 2 (by decide) (v := .ref (adr Γ (kT 0 + 3))) rfl mw_257 dX10_leave_49 ?_
      refine lv_iload_n hx hb dX10_leave_52 rfl (lv_at hl 1 rfl) ?_
      obtain ⟨hg111, h⟩ := chk_some h
      refine r_ild X.1 hH (lT3 _ (by omega)) (dT3 _ (by omega)) hg111 dX10_leave_53 ?_
      cases h
      exact e_int X hH rfl dX10_leave_54
    · replace h := if_f h hc
      cases h
def m_X6_smallestOf_2 (σ : Sg) (x0 : Int32)  : Nat → Int32 → Option Int32
  | 0, _ => none
  | n + 1, x1 => if 8 ≤ x1 then some ((-1)) else bnd (m_X6_has σ x0 x1) (fun r102 => if r102 = 0 then m_X6_smallestOf_2 σ x0 n (x1 + 1) else some x1)
set_option maxHeartbeats 4000000 in
set_option maxRecDepth 100000 in
theorem b_X6_smallestOf_2 {p : Program} {l : Launch} {e : Env} {s : State} {m : MethodId} {args : Array Value} {below : List Frame} {meth : Method} {c : Code} {Γ : GG} (X : MB Γ p s m args meth c cX6_smallestOf 2 RX6 (some .int)) (σ : Sg) {rf : Int32} (x0 : Int32) : ∀ (n : Nat), (∀ (x1 : Int32), (m_X6_smallestOf_2 σ x0 n) x1 = some rf → ∀ (H : Heap) (locs : List Loc) (ls : Array Slot), HW (IA Γ) Γ σ s.heap H locs → lv_has ls 2 [(0, .int x0), (1, .int x1)] → W p l e ({ frames := 1, cells := 0, slots := 0, locals := 21 } : Room) s m args below meth c H locs 0 0 (QI Γ σ rf below args s) (F0 m 2 ls [])) := by
  have hx := X.1.1
  have hb := X.1.2.1
  intro n
  induction n with
  | zero => intro x1 h; rw [m_X6_smallestOf_2] at h; cases h
  | succ n ih =>
    intro x1 h H locs ls hH hl
    rw [m_X6_smallestOf_2] at h
    refine lv_iload_n hx hb dX6_smallestOf_2 rfl (lv_at hl 1 rfl) ?_
    refine lv_bipush (v := 8) hx hb dX6_smallestOf_3 (by decide) ?_
    refine lv_icmp_ge (tgt := 24) hx hb dX6_smallestOf_5 (by decide) (fun hc => ?_) (fun hc => ?_)
    · replace h := if_t h hc
      refine lv_iconst (v := (-1)) hx hb dX6_smallestOf_24 (by decide) ?_
      cases h
      exact e_int X hH rfl dX6_smallestOf_25
    · replace h := if_f h hc
      refine lv_iload_n hx hb dX6_smallestOf_8 rfl (lv_at hl 0 rfl) ?_
      refine lv_iload_n hx hb dX6_smallestOf_9 rfl (lv_at hl 1 rfl) ?_
      obtain ⟨r102, hq101, h⟩ := bnd_some h
      refine r_callSI X.1 hl hH (As := [.int x0, .int x1]) (rest := []) (c_X6_has l X.1.2.2.2.2.2.2.1 σ x0 x1 _ hq101) (cw_S X.1 2 mw_204 mw_231 mw_203 mw_20 rfl rfl (by decide +kernel) ⟨Nat.le_of_ble_eq_true rfl, Nat.le_of_ble_eq_true rfl⟩) rfl rfl (Nat.le_of_ble_eq_true rfl) dX6_smallestOf_10 ⟨Nat.zero_le _, Nat.zero_le _⟩ (fun H locs hH => ?_)
      refine lv_if_eq (tgt := 18) hx hb dX6_smallestOf_13 (by decide) (fun hc => ?_) (fun hc => ?_)
      · replace h := if_t h hc
        refine lv_iinc (v := x1 + 1) (lv' := [(1, .int (x1 + 1)), (0, .int x0)]) hx hb dX6_smallestOf_18 hl (k := 1) rfl rfl (by decide) rfl (fun ls hl => ?_)
        refine lv_goto (tgt := 2) hx hb dX6_smallestOf_21 (by decide) ?_
        exact ih  (x1 + 1) h _ _ _ hH (lv_sub hl [1, 0] rfl)
      · replace h := if_f h hc
        refine lv_iload_n hx hb dX6_smallestOf_16 rfl (lv_at hl 1 rfl) ?_
        cases h
        exact e_int X hH rfl dX6_smallestOf_17
/-- CutoffMill$Rings.smallestOf(I)I -/
def m_X6_smallestOf (σ : Sg) (x0 : Int32) : Option Int32 := m_X6_smallestOf_2 σ x0 1000 0
set_option maxHeartbeats 4000000 in
set_option maxRecDepth 100000 in
theorem c_X6_smallestOf (l : Launch) {Γ : GG} (hJ : IJ Γ) (σ : Sg) (x0 : Int32) (rf : Int32) (h : m_X6_smallestOf σ x0 = some rf) : CI l yX6_smallestOf (wy yX6_smallestOf cX6_smallestOf 2 (some .int)) { frames := 1, cells := 0, slots := 0, locals := 21 } Γ σ [.int x0] σ rf := by
  refine met_of (by decide +kernel) hJ (Nat.le_of_ble_eq_true rfl) (fun p e s m below meth c ls X hH hl => ?_)
  have hl : lv_has ls 2 [(0, .int x0)] := hl
  have hx := X.1.1
  have hb := X.1.2.1
  rw [m_X6_smallestOf] at h
  refine lv_iconst (v := 0) hx hb dX6_smallestOf_0 (by decide) ?_
  refine lv_istore_n (lv' := [(1, .int 0), (0, .int x0)]) hx hb dX6_smallestOf_1 rfl hl (by decide) rfl (fun ls hl => ?_)
  exact b_X6_smallestOf_2 X σ x0  1000  0 h _ _ _ hH (lv_sub hl [1, 0] rfl)
/-- java/lang/Integer.bitCount(I)I -/
def m_J6_bitCount_0f7a4 (σ : Sg) (x0 : Int32) : Option Int32 := some ((((((((x0 - (((x0.toUInt32 >>> (((1 : Int32)).toUInt32 &&& Int32.toUInt32 31)).toInt32) &&& (1431655765 : Int32))) &&& (858993459 : Int32)) + ((((x0 - (((x0.toUInt32 >>> (((1 : Int32)).toUInt32 &&& Int32.toUInt32 31)).toInt32) &&& (1431655765 : Int32))).toUInt32 >>> (((2 : Int32)).toUInt32 &&& Int32.toUInt32 31)).toInt32) &&& (858993459 : Int32))) + (((((x0 - (((x0.toUInt32 >>> (((1 : Int32)).toUInt32 &&& Int32.toUInt32 31)).toInt32) &&& (1431655765 : Int32))) &&& (858993459 : Int32)) + ((((x0 - (((x0.toUInt32 >>> (((1 : Int32)).toUInt32 &&& Int32.toUInt32 31)).toInt32) &&& (1431655765 : Int32))).toUInt32 >>> (((2 : Int32)).toUInt32 &&& Int32.toUInt32 31)).toInt32) &&& (858993459 : Int32))).toUInt32 >>> (((4 : Int32)).toUInt32 &&& Int32.toUInt32 31)).toInt32)) &&& (252645135 : Int32)) + (((((((x0 - (((x0.toUInt32 >>> (((1 : Int32)).toUInt32 &&& Int32.toUInt32 31)).toInt32) &&& (1431655765 : Int32))) &&& (858993459 : Int32)) + ((((x0 - (((x0.toUInt32 >>> (((1 : Int32)).toUInt32 &&& Int32.toUInt32 31)).toInt32) &&& (1431655765 : Int32))).toUInt32 >>> (((2 : Int32)).toUInt32 &&& Int32.toUInt32 31)).toInt32) &&& (858993459 : Int32))) + (((((x0 - (((x0.toUInt32 >>> (((1 : Int32)).toUInt32 &&& Int32.toUInt32 31)).toInt32) &&& (1431655765 : Int32))) &&& (858993459 : Int32)) + ((((x0 - (((x0.toUInt32 >>> (((1 : Int32)).toUInt32 &&& Int32.toUInt32 31)).toInt32) &&& (1431655765 : Int32))).toUInt32 >>> (((2 : Int32)).toUInt32 &&& Int32.toUInt32 31)).toInt32) &&& (858993459 : Int32))).toUInt32 >>> (((4 : Int32)).toUInt32 &&& Int32.toUInt32 31)).toInt32)) &&& (252645135 : Int32)).toUInt32 >>> (((8 : Int32)).toUInt32 &&& Int32.toUInt32 31)).toInt32)) + ((((((((x0 - (((x0.toUInt32 >>> (((1 : Int32)).toUInt32 &&& Int32.toUInt32 31)).toInt32) &&& (1431655765 : Int32))) &&& (858993459 : Int32)) + ((((x0 - (((x0.toUInt32 >>> (((1 : Int32)).toUInt32 &&& Int32.toUInt32 31)).toInt32) &&& (1431655765 : Int32))).toUInt32 >>> (((2 : Int32)).toUInt32 &&& Int32.toUInt32 31)).toInt32) &&& (858993459 : Int32))) + (((((x0 - (((x0.toUInt32 >>> (((1 : Int32)).toUInt32 &&& Int32.toUInt32 31)).toInt32) &&& (1431655765 : Int32))) &&& (858993459 : Int32)) + ((((x0 - (((x0.toUInt32 >>> (((1 : Int32)).toUInt32 &&& Int32.toUInt32 31)).toInt32) &&& (1431655765 : Int32))).toUInt32 >>> (((2 : Int32)).toUInt32 &&& Int32.toUInt32 31)).toInt32) &&& (858993459 : Int32))).toUInt32 >>> (((4 : Int32)).toUInt32 &&& Int32.toUInt32 31)).toInt32)) &&& (252645135 : Int32)) + (((((((x0 - (((x0.toUInt32 >>> (((1 : Int32)).toUInt32 &&& Int32.toUInt32 31)).toInt32) &&& (1431655765 : Int32))) &&& (858993459 : Int32)) + ((((x0 - (((x0.toUInt32 >>> (((1 : Int32)).toUInt32 &&& Int32.toUInt32 31)).toInt32) &&& (1431655765 : Int32))).toUInt32 >>> (((2 : Int32)).toUInt32 &&& Int32.toUInt32 31)).toInt32) &&& (858993459 : Int32))) + (((((x0 - (((x0.toUInt32 >>> (((1 : Int32)).toUInt32 &&& Int32.toUInt32 31)).toInt32) &&& (1431655765 : Int32))) &&& (858993459 : Int32)) + ((((x0 - (((x0.toUInt32 >>> (((1 : Int32)).toUInt32 &&& Int32.toUInt32 31)).toInt32) &&& (1431655765 : Int32))).toUInt32 >>> (((2 : Int32)).toUInt32 &&& Int32.toUInt32 31)).toInt32) &&& (858993459 : Int32))).toUInt32 >>> (((4 : Int32)).toUInt32 &&& Int32.toUInt32 31)).toInt32)) &&& (252645135 : Int32)).toUInt32 >>> (((8 : Int32)).toUInt32 &&& Int32.toUInt32 31)).toInt32)).toUInt32 >>> (((16 : Int32)).toUInt32 &&& Int32.toUInt32 31)).toInt32)) &&& (63 : Int32))
set_option maxHeartbeats 4000000 in
set_option maxRecDepth 100000 in
theorem c_J6_bitCount_0f7a4 (l : Launch) {Γ : GG} (hJ : IJ Γ) (σ : Sg) (x0 : Int32) (rf : Int32) (h : m_J6_bitCount_0f7a4 σ x0 = some rf) : CI l yJ6_bitCount_0f7a4 (wy yJ6_bitCount_0f7a4 cJ6_bitCount_0f7a4 1 (some .int)) { frames := 0, cells := 0, slots := 0, locals := 0 } Γ σ [.int x0] σ rf := by
  refine met_of (by decide +kernel) hJ (Nat.le_of_ble_eq_true rfl) (fun p e s m below meth c ls X hH hl => ?_)
  have hl : lv_has ls 1 [(0, .int x0)] := hl
  have hx := X.1.1
  have hb := X.1.2.1
  rw [m_J6_bitCount_0f7a4] at h
  refine lv_iload_n hx hb dJ6_bitCount_0f7a4_0 rfl (lv_at hl 0 rfl) ?_
  refine lv_iload_n hx hb dJ6_bitCount_0f7a4_1 rfl (lv_at hl 0 rfl) ?_
  refine lv_iconst (v := 1) hx hb dJ6_bitCount_0f7a4_2 (by decide) ?_
  refine lv_iushr (v := (x0.toUInt32 >>> (((1 : Int32)).toUInt32 &&& Int32.toUInt32 31)).toInt32) hx hb dJ6_bitCount_0f7a4_3 rfl ?_
  refine lv_ldcw (v := 1431655765) hx hb X.1.2.2.2.1 (X.1.hts _ mw_287) dJ6_bitCount_0f7a4_4 ?_
  refine lv_iand hx hb dJ6_bitCount_0f7a4_7 ?_
  refine lv_isub hx hb dJ6_bitCount_0f7a4_8 ?_
  refine lv_istore_n (lv' := [(0, .int (x0 - (((x0.toUInt32 >>> (((1 : Int32)).toUInt32 &&& Int32.toUInt32 31)).toInt32) &&& (1431655765 : Int32))))]) hx hb dJ6_bitCount_0f7a4_9 rfl hl (by decide) rfl (fun ls hl => ?_)
  refine lv_iload_n hx hb dJ6_bitCount_0f7a4_10 rfl (lv_at hl 0 rfl) ?_
  refine lv_ldcw (v := 858993459) hx hb X.1.2.2.2.1 (X.1.hts _ mw_288) dJ6_bitCount_0f7a4_11 ?_
  refine lv_iand hx hb dJ6_bitCount_0f7a4_14 ?_
  refine lv_iload_n hx hb dJ6_bitCount_0f7a4_15 rfl (lv_at hl 0 rfl) ?_
  refine lv_iconst (v := 2) hx hb dJ6_bitCount_0f7a4_16 (by decide) ?_
  refine lv_iushr (v := ((x0 - (((x0.toUInt32 >>> (((1 : Int32)).toUInt32 &&& Int32.toUInt32 31)).toInt32) &&& (1431655765 : Int32))).toUInt32 >>> (((2 : Int32)).toUInt32 &&& Int32.toUInt32 31)).toInt32) hx hb dJ6_bitCount_0f7a4_17 rfl ?_
  refine lv_ldcw (v := 858993459) hx hb X.1.2.2.2.1 (X.1.hts _ mw_288) dJ6_bitCount_0f7a4_18 ?_
  refine lv_iand hx hb dJ6_bitCount_0f7a4_21 ?_
  refine lv_iadd hx hb dJ6_bitCount_0f7a4_22 ?_
  refine lv_istore_n (lv' := [(0, .int (((x0 - (((x0.toUInt32 >>> (((1 : Int32)).toUInt32 &&& Int32.toUInt32 31)).toInt32) &&& (1431655765 : Int32))) &&& (858993459 : Int32)) + ((((x0 - (((x0.toUInt32 >>> (((1 : Int32)).toUInt32 &&& Int32.toUInt32 31)).toInt32) &&& (1431655765 : Int32))).toUInt32 >>> (((2 : Int32)).toUInt32 &&& Int32.toUInt32 31)).toInt32) &&& (858993459 : Int32))))]) hx hb dJ6_bitCount_0f7a4_23 rfl hl (by decide) rfl (fun ls hl => ?_)
  refine lv_iload_n hx hb dJ6_bitCount_0f7a4_24 rfl (lv_at hl 0 rfl) ?_
  refine lv_iload_n hx hb dJ6_bitCount_0f7a4_25 rfl (lv_at hl 0 rfl) ?_
  refine lv_iconst (v := 4) hx hb dJ6_bitCount_0f7a4_26 (by decide) ?_
  refine lv_iushr (v := ((((x0 - (((x0.toUInt32 >>> (((1 : Int32)).toUInt32 &&& Int32.toUInt32 31)).toInt32) &&& (1431655765 : Int32))) &&& (858993459 : Int32)) + ((((x0 - (((x0.toUInt32 >>> (((1 : Int32)).toUInt32 &&& Int32.toUInt32 31)).toInt32) &&& (1431655765 : Int32))).toUInt32 >>> (((2 : Int32)).toUInt32 &&& Int32.toUInt32 31)).toInt32) &&& (858993459 : Int32))).toUInt32 >>> (((4 : Int32)).toUInt32 &&& Int32.toUInt32 31)).toInt32) hx hb dJ6_bitCount_0f7a4_27 rfl ?_
  refine lv_iadd hx hb dJ6_bitCount_0f7a4_28 ?_
  refine lv_ldcw (v := 252645135) hx hb X.1.2.2.2.1 (X.1.hts _ mw_289) dJ6_bitCount_0f7a4_29 ?_
  refine lv_iand hx hb dJ6_bitCount_0f7a4_32 ?_
  refine lv_istore_n (lv' := [(0, .int (((((x0 - (((x0.toUInt32 >>> (((1 : Int32)).toUInt32 &&& Int32.toUInt32 31)).toInt32) &&& (1431655765 : Int32))) &&& (858993459 : Int32)) + ((((x0 - (((x0.toUInt32 >>> (((1 : Int32)).toUInt32 &&& Int32.toUInt32 31)).toInt32) &&& (1431655765 : Int32))).toUInt32 >>> (((2 : Int32)).toUInt32 &&& Int32.toUInt32 31)).toInt32) &&& (858993459 : Int32))) + (((((x0 - (((x0.toUInt32 >>> (((1 : Int32)).toUInt32 &&& Int32.toUInt32 31)).toInt32) &&& (1431655765 : Int32))) &&& (858993459 : Int32)) + ((((x0 - (((x0.toUInt32 >>> (((1 : Int32)).toUInt32 &&& Int32.toUInt32 31)).toInt32) &&& (1431655765 : Int32))).toUInt32 >>> (((2 : Int32)).toUInt32 &&& Int32.toUInt32 31)).toInt32) &&& (858993459 : Int32))).toUInt32 >>> (((4 : Int32)).toUInt32 &&& Int32.toUInt32 31)).toInt32)) &&& (252645135 : Int32)))]) hx hb dJ6_bitCount_0f7a4_33 rfl hl (by decide) rfl (fun ls hl => ?_)
  refine lv_iload_n hx hb dJ6_bitCount_0f7a4_34 rfl (lv_at hl 0 rfl) ?_
  refine lv_iload_n hx hb dJ6_bitCount_0f7a4_35 rfl (lv_at hl 0 rfl) ?_
  refine lv_bipush (v := 8) hx hb dJ6_bitCount_0f7a4_36 (by decide) ?_
  refine lv_iushr (v := ((((((x0 - (((x0.toUInt32 >>> (((1 : Int32)).toUInt32 &&& Int32.toUInt32 31)).toInt32) &&& (1431655765 : Int32))) &&& (858993459 : Int32)) + ((((x0 - (((x0.toUInt32 >>> (((1 : Int32)).toUInt32 &&& Int32.toUInt32 31)).toInt32) &&& (1431655765 : Int32))).toUInt32 >>> (((2 : Int32)).toUInt32 &&& Int32.toUInt32 31)).toInt32) &&& (858993459 : Int32))) + (((((x0 - (((x0.toUInt32 >>> (((1 : Int32)).toUInt32 &&& Int32.toUInt32 31)).toInt32) &&& (1431655765 : Int32))) &&& (858993459 : Int32)) + ((((x0 - (((x0.toUInt32 >>> (((1 : Int32)).toUInt32 &&& Int32.toUInt32 31)).toInt32) &&& (1431655765 : Int32))).toUInt32 >>> (((2 : Int32)).toUInt32 &&& Int32.toUInt32 31)).toInt32) &&& (858993459 : Int32))).toUInt32 >>> (((4 : Int32)).toUInt32 &&& Int32.toUInt32 31)).toInt32)) &&& (252645135 : Int32)).toUInt32 >>> (((8 : Int32)).toUInt32 &&& Int32.toUInt32 31)).toInt32) hx hb dJ6_bitCount_0f7a4_38 rfl ?_
  refine lv_iadd hx hb dJ6_bitCount_0f7a4_39 ?_
  refine lv_istore_n (lv' := [(0, .int ((((((x0 - (((x0.toUInt32 >>> (((1 : Int32)).toUInt32 &&& Int32.toUInt32 31)).toInt32) &&& (1431655765 : Int32))) &&& (858993459 : Int32)) + ((((x0 - (((x0.toUInt32 >>> (((1 : Int32)).toUInt32 &&& Int32.toUInt32 31)).toInt32) &&& (1431655765 : Int32))).toUInt32 >>> (((2 : Int32)).toUInt32 &&& Int32.toUInt32 31)).toInt32) &&& (858993459 : Int32))) + (((((x0 - (((x0.toUInt32 >>> (((1 : Int32)).toUInt32 &&& Int32.toUInt32 31)).toInt32) &&& (1431655765 : Int32))) &&& (858993459 : Int32)) + ((((x0 - (((x0.toUInt32 >>> (((1 : Int32)).toUInt32 &&& Int32.toUInt32 31)).toInt32) &&& (1431655765 : Int32))).toUInt32 >>> (((2 : Int32)).toUInt32 &&& Int32.toUInt32 31)).toInt32) &&& (858993459 : Int32))).toUInt32 >>> (((4 : Int32)).toUInt32 &&& Int32.toUInt32 31)).toInt32)) &&& (252645135 : Int32)) + (((((((x0 - (((x0.toUInt32 >>> (((1 : Int32)).toUInt32 &&& Int32.toUInt32 31)).toInt32) &&& (1431655765 : Int32))) &&& (858993459 : Int32)) + ((((x0 - (((x0.toUInt32 >>> (((1 : Int32)).toUInt32 &&& Int32.toUInt32 31)).toInt32) &&& (1431655765 : Int32))).toUInt32 >>> (((2 : Int32)).toUInt32 &&& Int32.toUInt32 31)).toInt32) &&& (858993459 : Int32))) + (((((x0 - (((x0.toUInt32 >>> (((1 : Int32)).toUInt32 &&& Int32.toUInt32 31)).toInt32) &&& (1431655765 : Int32))) &&& (858993459 : Int32)) + ((((x0 - (((x0.toUInt32 >>> (((1 : Int32)).toUInt32 &&& Int32.toUInt32 31)).toInt32) &&& (1431655765 : Int32))).toUInt32 >>> (((2 : Int32)).toUInt32 &&& Int32.toUInt32 31)).toInt32) &&& (858993459 : Int32))).toUInt32 >>> (((4 : Int32)).toUInt32 &&& Int32.toUInt32 31)).toInt32)) &&& (252645135 : Int32)).toUInt32 >>> (((8 : Int32)).toUInt32 &&& Int32.toUInt32 31)).toInt32)))]) hx hb dJ6_bitCount_0f7a4_40 rfl hl (by decide) rfl (fun ls hl => ?_)
  refine lv_iload_n hx hb dJ6_bitCount_0f7a4_41 rfl (lv_at hl 0 rfl) ?_
  refine lv_iload_n hx hb dJ6_bitCount_0f7a4_42 rfl (lv_at hl 0 rfl) ?_
  refine lv_bipush (v := 16) hx hb dJ6_bitCount_0f7a4_43 (by decide) ?_
  refine lv_iushr (v := (((((((x0 - (((x0.toUInt32 >>> (((1 : Int32)).toUInt32 &&& Int32.toUInt32 31)).toInt32) &&& (1431655765 : Int32))) &&& (858993459 : Int32)) + ((((x0 - (((x0.toUInt32 >>> (((1 : Int32)).toUInt32 &&& Int32.toUInt32 31)).toInt32) &&& (1431655765 : Int32))).toUInt32 >>> (((2 : Int32)).toUInt32 &&& Int32.toUInt32 31)).toInt32) &&& (858993459 : Int32))) + (((((x0 - (((x0.toUInt32 >>> (((1 : Int32)).toUInt32 &&& Int32.toUInt32 31)).toInt32) &&& (1431655765 : Int32))) &&& (858993459 : Int32)) + ((((x0 - (((x0.toUInt32 >>> (((1 : Int32)).toUInt32 &&& Int32.toUInt32 31)).toInt32) &&& (1431655765 : Int32))).toUInt32 >>> (((2 : Int32)).toUInt32 &&& Int32.toUInt32 31)).toInt32) &&& (858993459 : Int32))).toUInt32 >>> (((4 : Int32)).toUInt32 &&& Int32.toUInt32 31)).toInt32)) &&& (252645135 : Int32)) + (((((((x0 - (((x0.toUInt32 >>> (((1 : Int32)).toUInt32 &&& Int32.toUInt32 31)).toInt32) &&& (1431655765 : Int32))) &&& (858993459 : Int32)) + ((((x0 - (((x0.toUInt32 >>> (((1 : Int32)).toUInt32 &&& Int32.toUInt32 31)).toInt32) &&& (1431655765 : Int32))).toUInt32 >>> (((2 : Int32)).toUInt32 &&& Int32.toUInt32 31)).toInt32) &&& (858993459 : Int32))) + (((((x0 - (((x0.toUInt32 >>> (((1 : Int32)).toUInt32 &&& Int32.toUInt32 31)).toInt32) &&& (1431655765 : Int32))) &&& (858993459 : Int32)) + ((((x0 - (((x0.toUInt32 >>> (((1 : Int32)).toUInt32 &&& Int32.toUInt32 31)).toInt32) &&& (1431655765 : Int32))).toUInt32 >>> (((2 : Int32)).toUInt32 &&& Int32.toUInt32 31)).toInt32) &&& (858993459 : Int32))).toUInt32 >>> (((4 : Int32)).toUInt32 &&& Int32.toUInt32 31)).toInt32)) &&& (252645135 : Int32)).toUInt32 >>> (((8 : Int32)).toUInt32 &&& Int32.toUInt32 31)).toInt32)).toUInt32 >>> (((16 : Int32)).toUInt32 &&& Int32.toUInt32 31)).toInt32) hx hb dJ6_bitCount_0f7a4_45 rfl ?_
  refine lv_iadd hx hb dJ6_bitCount_0f7a4_46 ?_
  refine lv_istore_n (lv' := [(0, .int (((((((x0 - (((x0.toUInt32 >>> (((1 : Int32)).toUInt32 &&& Int32.toUInt32 31)).toInt32) &&& (1431655765 : Int32))) &&& (858993459 : Int32)) + ((((x0 - (((x0.toUInt32 >>> (((1 : Int32)).toUInt32 &&& Int32.toUInt32 31)).toInt32) &&& (1431655765 : Int32))).toUInt32 >>> (((2 : Int32)).toUInt32 &&& Int32.toUInt32 31)).toInt32) &&& (858993459 : Int32))) + (((((x0 - (((x0.toUInt32 >>> (((1 : Int32)).toUInt32 &&& Int32.toUInt32 31)).toInt32) &&& (1431655765 : Int32))) &&& (858993459 : Int32)) + ((((x0 - (((x0.toUInt32 >>> (((1 : Int32)).toUInt32 &&& Int32.toUInt32 31)).toInt32) &&& (1431655765 : Int32))).toUInt32 >>> (((2 : Int32)).toUInt32 &&& Int32.toUInt32 31)).toInt32) &&& (858993459 : Int32))).toUInt32 >>> (((4 : Int32)).toUInt32 &&& Int32.toUInt32 31)).toInt32)) &&& (252645135 : Int32)) + (((((((x0 - (((x0.toUInt32 >>> (((1 : Int32)).toUInt32 &&& Int32.toUInt32 31)).toInt32) &&& (1431655765 : Int32))) &&& (858993459 : Int32)) + ((((x0 - (((x0.toUInt32 >>> (((1 : Int32)).toUInt32 &&& Int32.toUInt32 31)).toInt32) &&& (1431655765 : Int32))).toUInt32 >>> (((2 : Int32)).toUInt32 &&& Int32.toUInt32 31)).toInt32) &&& (858993459 : Int32))) + (((((x0 - (((x0.toUInt32 >>> (((1 : Int32)).toUInt32 &&& Int32.toUInt32 31)).toInt32) &&& (1431655765 : Int32))) &&& (858993459 : Int32)) + ((((x0 - (((x0.toUInt32 >>> (((1 : Int32)).toUInt32 &&& Int32.toUInt32 31)).toInt32) &&& (1431655765 : Int32))).toUInt32 >>> (((2 : Int32)).toUInt32 &&& Int32.toUInt32 31)).toInt32) &&& (858993459 : Int32))).toUInt32 >>> (((4 : Int32)).toUInt32 &&& Int32.toUInt32 31)).toInt32)) &&& (252645135 : Int32)).toUInt32 >>> (((8 : Int32)).toUInt32 &&& Int32.toUInt32 31)).toInt32)) + ((((((((x0 - (((x0.toUInt32 >>> (((1 : Int32)).toUInt32 &&& Int32.toUInt32 31)).toInt32) &&& (1431655765 : Int32))) &&& (858993459 : Int32)) + ((((x0 - (((x0.toUInt32 >>> (((1 : Int32)).toUInt32 &&& Int32.toUInt32 31)).toInt32) &&& (1431655765 : Int32))).toUInt32 >>> (((2 : Int32)).toUInt32 &&& Int32.toUInt32 31)).toInt32) &&& (858993459 : Int32))) + (((((x0 - (((x0.toUInt32 >>> (((1 : Int32)).toUInt32 &&& Int32.toUInt32 31)).toInt32) &&& (1431655765 : Int32))) &&& (858993459 : Int32)) + ((((x0 - (((x0.toUInt32 >>> (((1 : Int32)).toUInt32 &&& Int32.toUInt32 31)).toInt32) &&& (1431655765 : Int32))).toUInt32 >>> (((2 : Int32)).toUInt32 &&& Int32.toUInt32 31)).toInt32) &&& (858993459 : Int32))).toUInt32 >>> (((4 : Int32)).toUInt32 &&& Int32.toUInt32 31)).toInt32)) &&& (252645135 : Int32)) + (((((((x0 - (((x0.toUInt32 >>> (((1 : Int32)).toUInt32 &&& Int32.toUInt32 31)).toInt32) &&& (1431655765 : Int32))) &&& (858993459 : Int32)) + ((((x0 - (((x0.toUInt32 >>> (((1 : Int32)).toUInt32 &&& Int32.toUInt32 31)).toInt32) &&& (1431655765 : Int32))).toUInt32 >>> (((2 : Int32)).toUInt32 &&& Int32.toUInt32 31)).toInt32) &&& (858993459 : Int32))) + (((((x0 - (((x0.toUInt32 >>> (((1 : Int32)).toUInt32 &&& Int32.toUInt32 31)).toInt32) &&& (1431655765 : Int32))) &&& (858993459 : Int32)) + ((((x0 - (((x0.toUInt32 >>> (((1 : Int32)).toUInt32 &&& Int32.toUInt32 31)).toInt32) &&& (1431655765 : Int32))).toUInt32 >>> (((2 : Int32)).toUInt32 &&& Int32.toUInt32 31)).toInt32) &&& (858993459 : Int32))).toUInt32 >>> (((4 : Int32)).toUInt32 &&& Int32.toUInt32 31)).toInt32)) &&& (252645135 : Int32)).toUInt32 >>> (((8 : Int32)).toUInt32 &&& Int32.toUInt32 31)).toInt32)).toUInt32 >>> (((16 : Int32)).toUInt32 &&& Int32.toUInt32 31)).toInt32)))]) hx hb dJ6_bitCount_0f7a4_47 rfl hl (by decide) rfl (fun ls hl => ?_)
  refine lv_iload_n hx hb dJ6_bitCount_0f7a4_48 rfl (lv_at hl 0 rfl) ?_
  refine lv_bipush (v := 63) hx hb dJ6_bitCount_0f7a4_49 (by decide) ?_
  refine lv_iand hx hb dJ6_bitCount_0f7a4_51 ?_
  cases h
  exact e_int X hH rfl dJ6_bitCount_0f7a4_52
def m_X4_wantedBy_4 (σ : Sg) (x1 : Int32)  : Nat → Int32 → Int32 → Option Int32
  | 0, _, _ => none
  | n + 1, x2, x3 => if 8 ≤ x3 then some x2 else chk (inb ((x1 * (8 : Int32)) + x3) 64) (bnd (m_J6_bitCount_0f7a4 σ (σ.1 8 0 ((x1 * (8 : Int32)) + x3).toNatClampNeg)) (fun r103 => m_X4_wantedBy_4 σ x1 n (x2 + r103) (x3 + 1)))
set_option maxHeartbeats 4000000 in
set_option maxRecDepth 100000 in
theorem b_X4_wantedBy_4 {p : Program} {l : Launch} {e : Env} {s : State} {m : MethodId} {args : Array Value} {below : List Frame} {meth : Method} {c : Code} {Γ : GG} (X : MB Γ p s m args meth c cX4_wantedBy 4 RX4 (some .int)) (σ : Sg) {rf : Int32} (x1 : Int32) : ∀ (n : Nat), (∀ (x2 : Int32) (x3 : Int32), (m_X4_wantedBy_4 σ x1 n) x2 x3 = some rf → ∀ (H : Heap) (locs : List Loc) (ls : Array Slot), HW (IA Γ) Γ σ s.heap H locs → lv_has ls 4 [(0, .ref (adr Γ 4)), (1, .int x1), (2, .int x2), (3, .int x3)] → W p l e ({ frames := 1, cells := 0, slots := 0, locals := 20 } : Room) s m args below meth c H locs 0 0 (QI Γ σ rf below args s) (F0 m 4 ls [])) := by
  have hx := X.1.1
  have hb := X.1.2.1
  intro n
  induction n with
  | zero => intro x2 x3 h; rw [m_X4_wantedBy_4] at h; cases h
  | succ n ih =>
    intro x2 x3 h H locs ls hH hl
    rw [m_X4_wantedBy_4] at h
    refine lv_iload_n hx hb dX4_wantedBy_4 rfl (lv_at hl 3 rfl) ?_
    refine lv_bipush (v := 8) hx hb dX4_wantedBy_5 (by decide) ?_
    refine lv_icmp_ge (tgt := 33) hx hb dX4_wantedBy_7 (by decide) (fun hc => ?_) (fun hc => ?_)
    · replace h := if_t h hc
      refine lv_iload_n hx hb dX4_wantedBy_33 rfl (lv_at hl 2 rfl) ?_
      cases h
      exact e_int X hH rfl dX4_wantedBy_34
    · replace h := if_f h hc
      refine lv_iload_n hx hb dX4_wantedBy_10 rfl (lv_at hl 2 rfl) ?_
      refine lv_aload_n hx hb dX4_wantedBy_11 rfl (lv_at hl 0 rfl) ?_
      refine r_get X.1 hH (by decide) rfl rfl inlX4 3 (by decide) (v := .ref (adr Γ 7)) rfl mw_42 dX4_wantedBy_12 ?_
      refine lv_iload_n hx hb dX4_wantedBy_15 rfl (lv_at hl 1 rfl) ?_
      refine lv_bipush (v := 8) hx hb dX4_wantedBy_16 (by decide) ?_
      refine lv_imul hx hb dX4_wantedBy_18 ?_
      refine lv_iload_n hx hb dX4_wantedBy_19 rfl (lv_at hl 3 rfl) ?_
      refine lv_iadd hx hb dX4_wantedBy_20 ?_
      obtain ⟨hg101, h⟩ := chk_some h
      refine r_ild X.1 hH (by decide) rfl hg101 dX4_wantedBy_21 ?_
      obtain ⟨r103, hq102, h⟩ := bnd_some h
      refine r_callSI X.1 hl hH (As := [.int (σ.1 8 0 ((x1 * (8 : Int32)) + x3).toNatClampNeg)]) (rest := [.int x2]) (c_J6_bitCount_0f7a4 l X.1.2.2.2.2.2.2.1 σ (σ.1 8 0 ((x1 * (8 : Int32)) + x3).toNatClampNeg) _ hq102) (cw_S X.1 1 mw_286 mw_283 mw_284 mw_285 rfl rfl (by decide +kernel) ⟨Nat.le_of_ble_eq_true rfl, Nat.le_of_ble_eq_true rfl⟩) rfl rfl (Nat.le_of_ble_eq_true rfl) dX4_wantedBy_22 ⟨Nat.zero_le _, Nat.zero_le _⟩ (fun H locs hH => ?_)
      refine lv_iadd hx hb dX4_wantedBy_25 ?_
      refine lv_istore_n (lv' := [(2, .int (x2 + r103)), (0, .ref (adr Γ 4)), (1, .int x1), (3, .int x3)]) hx hb dX4_wantedBy_26 rfl hl (by decide) rfl (fun ls hl => ?_)
      refine lv_iinc (v := x3 + 1) (lv' := [(3, .int (x3 + 1)), (2, .int (x2 + r103)), (0, .ref (adr Γ 4)), (1, .int x1)]) hx hb dX4_wantedBy_27 hl (k := 3) rfl rfl (by decide) rfl (fun ls hl => ?_)
      refine lv_goto (tgt := 4) hx hb dX4_wantedBy_30 (by decide) ?_
      exact ih  (x2 + r103) (x3 + 1) h _ _ _ hH (lv_sub hl [2, 3, 1, 0] rfl)
/-- CutoffMill$Names.wantedBy(I)I -/
def m_X4_wantedBy (σ : Sg) (x1 : Int32) : Option Int32 := m_X4_wantedBy_4 σ x1 1000 0 0
set_option maxHeartbeats 4000000 in
set_option maxRecDepth 100000 in
theorem c_X4_wantedBy (l : Launch) {Γ : GG} (hJ : IJ Γ) (σ : Sg) (x1 : Int32) (rf : Int32) (h : m_X4_wantedBy σ x1 = some rf) : CI l yX4_wantedBy (wy yX4_wantedBy cX4_wantedBy 4 (some .int)) { frames := 1, cells := 0, slots := 0, locals := 20 } Γ σ [.ref (adr Γ 4), .int x1] σ rf := by
  refine met_of (by decide +kernel) hJ (Nat.le_of_ble_eq_true rfl) (fun p e s m below meth c ls X hH hl => ?_)
  have hl : lv_has ls 4 [(0, .ref (adr Γ 4)), (1, .int x1)] := hl
  have hx := X.1.1
  have hb := X.1.2.1
  rw [m_X4_wantedBy] at h
  refine lv_iconst (v := 0) hx hb dX4_wantedBy_0 (by decide) ?_
  refine lv_istore_n (lv' := [(2, .int 0), (0, .ref (adr Γ 4)), (1, .int x1)]) hx hb dX4_wantedBy_1 rfl hl (by decide) rfl (fun ls hl => ?_)
  refine lv_iconst (v := 0) hx hb dX4_wantedBy_2 (by decide) ?_
  refine lv_istore_n (lv' := [(3, .int 0), (2, .int 0), (0, .ref (adr Γ 4)), (1, .int x1)]) hx hb dX4_wantedBy_3 rfl hl (by decide) rfl (fun ls hl => ?_)
  exact b_X4_wantedBy_4 X σ x1  1000  0 0 h _ _ _ hH (lv_sub hl [2, 3, 1, 0] rfl)
def m_X9_firstUnbuilt_2 (σ : Sg) (i0 : Nat) (x1 : Int32)  : Nat → Int32 → Option Int32
  | 0, _ => none
  | n + 1, x2 => if 8 ≤ x2 then some ((-1)) else bnd (m_X6_has σ x1 x2) (fun r102 => if r102 = 0 then m_X9_firstUnbuilt_2 σ i0 x1 n (x2 + 1) else chk (inb x2 (lenP 0 i0)) (bnd (σ.2.2 0 i0 x2.toNatClampNeg) (fun r105 => chk (decide (r105 < 30)) (if (σ.1 30 r105 0) = 0 then some x2 else m_X9_firstUnbuilt_2 σ i0 x1 n (x2 + 1)))))
set_option maxHeartbeats 4000000 in
set_option maxRecDepth 100000 in
theorem b_X9_firstUnbuilt_2 {p : Program} {l : Launch} {e : Env} {s : State} {m : MethodId} {args : Array Value} {below : List Frame} {meth : Method} {c : Code} {Γ : GG} (X : MB Γ p s m args meth c cX9_firstUnbuilt 3 RX9 (some .int)) (σ : Sg) {rf : Int32} (i0 : Nat) (hi0 : i0 < 2) (x1 : Int32) : ∀ (n : Nat), (∀ (x2 : Int32), (m_X9_firstUnbuilt_2 σ i0 x1 n) x2 = some rf → ∀ (H : Heap) (locs : List Loc) (ls : Array Slot), HW (IA Γ) Γ σ s.heap H locs → lv_has ls 3 [(0, .ref (adr Γ (kW i0))), (1, .int x1), (2, .int x2)] → W p l e ({ frames := 1, cells := 0, slots := 0, locals := 21 } : Room) s m args below meth c H locs 0 0 (QI Γ σ rf below args s) (F0 m 2 ls [])) := by
  have hx := X.1.1
  have hb := X.1.2.1
  intro n
  induction n with
  | zero => intro x2 h; rw [m_X9_firstUnbuilt_2] at h; cases h
  | succ n ih =>
    intro x2 h H locs ls hH hl
    rw [m_X9_firstUnbuilt_2] at h
    refine lv_iload_n hx hb dX9_firstUnbuilt_2 rfl (lv_at hl 2 rfl) ?_
    refine lv_bipush (v := 8) hx hb dX9_firstUnbuilt_3 (by decide) ?_
    refine lv_icmp_ge (tgt := 36) hx hb dX9_firstUnbuilt_5 (by decide) (fun hc => ?_) (fun hc => ?_)
    · replace h := if_t h hc
      refine lv_iconst (v := (-1)) hx hb dX9_firstUnbuilt_36 (by decide) ?_
      cases h
      exact e_int X hH rfl dX9_firstUnbuilt_37
    · replace h := if_f h hc
      refine lv_iload_n hx hb dX9_firstUnbuilt_8 rfl (lv_at hl 1 rfl) ?_
      refine lv_iload_n hx hb dX9_firstUnbuilt_9 rfl (lv_at hl 2 rfl) ?_
      obtain ⟨r102, hq101, h⟩ := bnd_some h
      refine r_callSI X.1 hl hH (As := [.int x1, .int x2]) (rest := []) (c_X6_has l X.1.2.2.2.2.2.2.1 σ x1 x2 _ hq101) (cw_S X.1 2 mw_204 mw_299 mw_203 mw_20 rfl rfl (by decide +kernel) ⟨Nat.le_of_ble_eq_true rfl, Nat.le_of_ble_eq_true rfl⟩) rfl rfl (Nat.le_of_ble_eq_true rfl) dX9_firstUnbuilt_10 ⟨Nat.zero_le _, Nat.zero_le _⟩ (fun H locs hH => ?_)
      refine lv_if_eq (tgt := 30) hx hb dX9_firstUnbuilt_13 (by decide) (fun hc => ?_) (fun hc => ?_)
      · replace h := if_t h hc
        refine lv_iinc (v := x2 + 1) (lv' := [(2, .int (x2 + 1)), (0, .ref (adr Γ (kW i0))), (1, .int x1)]) hx hb dX9_firstUnbuilt_30 hl (k := 2) rfl rfl (by decide) rfl (fun ls hl => ?_)
        refine lv_goto (tgt := 2) hx hb dX9_firstUnbuilt_33 (by decide) ?_
        exact ih  (x2 + 1) h _ _ _ hH (lv_sub hl [1, 2, 0] rfl)
      · replace h := if_f h hc
        refine lv_aload_n hx hb dX9_firstUnbuilt_16 rfl (lv_at hl 0 rfl) ?_
        refine r_get X.1 hH (kW_lt hi0) (dW0 _ hi0) rfl inlX9 5 (by decide) (v := .ref (adr Γ (kW i0 + 3))) rfl mw_63 dX9_firstUnbuilt_17 ?_
        refine lv_iload_n hx hb dX9_firstUnbuilt_20 rfl (lv_at hl 2 rfl) ?_
        obtain ⟨hg104, h⟩ := chk_some h
        obtain ⟨r105, he106, h⟩ := bnd_some h
        obtain ⟨hr105, h⟩ := chk_some h
        replace hr105 := of_decide_eq_true hr105
        refine r_ald X.1 hH (lW _ hi0 3 (by decide)) (dW3 _ hi0) hg104 he106 dX9_firstUnbuilt_21 ?_
        refine r_get X.1 hH (kR_lt hr105) (dR0 _ hr105) rfl inlX5 0 (by decide) (v := .int (σ.1 30 r105 0)) rfl mw_298 dX9_firstUnbuilt_22 ?_
        refine lv_if_ne (tgt := 30) hx hb dX9_firstUnbuilt_25 (by decide) (fun hc => ?_) (fun hc => ?_)
        · replace h := if_f h hc
          refine lv_iinc (v := x2 + 1) (lv' := [(2, .int (x2 + 1)), (0, .ref (adr Γ (kW i0))), (1, .int x1)]) hx hb dX9_firstUnbuilt_30 hl (k := 2) rfl rfl (by decide) rfl (fun ls hl => ?_)
          refine lv_goto (tgt := 2) hx hb dX9_firstUnbuilt_33 (by decide) ?_
          exact ih  (x2 + 1) h _ _ _ hH (lv_sub hl [1, 2, 0] rfl)
        · replace h := if_t h hc
          refine lv_iload_n hx hb dX9_firstUnbuilt_28 rfl (lv_at hl 2 rfl) ?_
          cases h
          exact e_int X hH rfl dX9_firstUnbuilt_29
/-- CutoffMill$Works.firstUnbuilt(I)I -/
def m_X9_firstUnbuilt (σ : Sg) (i0 : Nat) (x1 : Int32) : Option Int32 := m_X9_firstUnbuilt_2 σ i0 x1 1000 0
set_option maxHeartbeats 4000000 in
set_option maxRecDepth 100000 in
theorem c_X9_firstUnbuilt (l : Launch) {Γ : GG} (hJ : IJ Γ) (σ : Sg) (i0 : Nat) (hi0 : i0 < 2) (x1 : Int32) (rf : Int32) (h : m_X9_firstUnbuilt σ i0 x1 = some rf) : CI l yX9_firstUnbuilt (wy yX9_firstUnbuilt cX9_firstUnbuilt 3 (some .int)) { frames := 1, cells := 0, slots := 0, locals := 21 } Γ σ [.ref (adr Γ (kW i0)), .int x1] σ rf := by
  refine met_of (by decide +kernel) hJ (Nat.le_of_ble_eq_true rfl) (fun p e s m below meth c ls X hH hl => ?_)
  have hl : lv_has ls 3 [(0, .ref (adr Γ (kW i0))), (1, .int x1)] := hl
  have hx := X.1.1
  have hb := X.1.2.1
  rw [m_X9_firstUnbuilt] at h
  refine lv_iconst (v := 0) hx hb dX9_firstUnbuilt_0 (by decide) ?_
  refine lv_istore_n (lv' := [(2, .int 0), (0, .ref (adr Γ (kW i0))), (1, .int x1)]) hx hb dX9_firstUnbuilt_1 rfl hl (by decide) rfl (fun ls hl => ?_)
  exact b_X9_firstUnbuilt_2 X σ i0 hi0 x1  1000  0 h _ _ _ hH (lv_sub hl [1, 2, 0] rfl)
def m_X9_wasInOtherRing_2 (σ : Sg) (i0 : Nat) (x1 : Int32)  : Nat → Int32 → Option Int32
  | 0, _ => none
  | n + 1, x2 => if 8 ≤ x2 then some 0 else bnd (m_X6_has σ x1 x2) (fun r102 => if r102 = 0 then m_X9_wasInOtherRing_2 σ i0 x1 n (x2 + 1) else chk (inb x2 (lenP 0 i0)) (bnd (σ.2.2 0 i0 x2.toNatClampNeg) (fun r105 => chk (decide (r105 < 30)) (if (σ.1 30 r105 0) = x1 then m_X9_wasInOtherRing_2 σ i0 x1 n (x2 + 1) else some 1))))
set_option maxHeartbeats 4000000 in
set_option maxRecDepth 100000 in
theorem b_X9_wasInOtherRing_2 {p : Program} {l : Launch} {e : Env} {s : State} {m : MethodId} {args : Array Value} {below : List Frame} {meth : Method} {c : Code} {Γ : GG} (X : MB Γ p s m args meth c cX9_wasInOtherRing 3 RX9 (some .boolean)) (σ : Sg) {rf : Int32} (i0 : Nat) (hi0 : i0 < 2) (x1 : Int32) : ∀ (n : Nat), (∀ (x2 : Int32), (m_X9_wasInOtherRing_2 σ i0 x1 n) x2 = some rf → ∀ (H : Heap) (locs : List Loc) (ls : Array Slot), HW (IA Γ) Γ σ s.heap H locs → lv_has ls 3 [(0, .ref (adr Γ (kW i0))), (1, .int x1), (2, .int x2)] → W p l e ({ frames := 1, cells := 0, slots := 0, locals := 21 } : Room) s m args below meth c H locs 0 0 (QI Γ σ rf below args s) (F0 m 2 ls [])) := by
  have hx := X.1.1
  have hb := X.1.2.1
  intro n
  induction n with
  | zero => intro x2 h; rw [m_X9_wasInOtherRing_2] at h; cases h
  | succ n ih =>
    intro x2 h H locs ls hH hl
    rw [m_X9_wasInOtherRing_2] at h
    refine lv_iload_n hx hb dX9_wasInOtherRing_2 rfl (lv_at hl 2 rfl) ?_
    refine lv_bipush (v := 8) hx hb dX9_wasInOtherRing_3 (by decide) ?_
    refine lv_icmp_ge (tgt := 37) hx hb dX9_wasInOtherRing_5 (by decide) (fun hc => ?_) (fun hc => ?_)
    · replace h := if_t h hc
      refine lv_iconst (v := 0) hx hb dX9_wasInOtherRing_37 (by decide) ?_
      cases h
      exact e_int X hH rfl dX9_wasInOtherRing_38
    · replace h := if_f h hc
      refine lv_iload_n hx hb dX9_wasInOtherRing_8 rfl (lv_at hl 1 rfl) ?_
      refine lv_iload_n hx hb dX9_wasInOtherRing_9 rfl (lv_at hl 2 rfl) ?_
      obtain ⟨r102, hq101, h⟩ := bnd_some h
      refine r_callSI X.1 hl hH (As := [.int x1, .int x2]) (rest := []) (c_X6_has l X.1.2.2.2.2.2.2.1 σ x1 x2 _ hq101) (cw_S X.1 2 mw_204 mw_299 mw_203 mw_20 rfl rfl (by decide +kernel) ⟨Nat.le_of_ble_eq_true rfl, Nat.le_of_ble_eq_true rfl⟩) rfl rfl (Nat.le_of_ble_eq_true rfl) dX9_wasInOtherRing_10 ⟨Nat.zero_le _, Nat.zero_le _⟩ (fun H locs hH => ?_)
      refine lv_if_eq (tgt := 31) hx hb dX9_wasInOtherRing_13 (by decide) (fun hc => ?_) (fun hc => ?_)
      · replace h := if_t h hc
        refine lv_iinc (v := x2 + 1) (lv' := [(2, .int (x2 + 1)), (0, .ref (adr Γ (kW i0))), (1, .int x1)]) hx hb dX9_wasInOtherRing_31 hl (k := 2) rfl rfl (by decide) rfl (fun ls hl => ?_)
        refine lv_goto (tgt := 2) hx hb dX9_wasInOtherRing_34 (by decide) ?_
        exact ih  (x2 + 1) h _ _ _ hH (lv_sub hl [1, 2, 0] rfl)
      · replace h := if_f h hc
        refine lv_aload_n hx hb dX9_wasInOtherRing_16 rfl (lv_at hl 0 rfl) ?_
        refine r_get X.1 hH (kW_lt hi0) (dW0 _ hi0) rfl inlX9 5 (by decide) (v := .ref (adr Γ (kW i0 + 3))) rfl mw_63 dX9_wasInOtherRing_17 ?_
        refine lv_iload_n hx hb dX9_wasInOtherRing_20 rfl (lv_at hl 2 rfl) ?_
        obtain ⟨hg104, h⟩ := chk_some h
        obtain ⟨r105, he106, h⟩ := bnd_some h
        obtain ⟨hr105, h⟩ := chk_some h
        replace hr105 := of_decide_eq_true hr105
        refine r_ald X.1 hH (lW _ hi0 3 (by decide)) (dW3 _ hi0) hg104 he106 dX9_wasInOtherRing_21 ?_
        refine r_get X.1 hH (kR_lt hr105) (dR0 _ hr105) rfl inlX5 0 (by decide) (v := .int (σ.1 30 r105 0)) rfl mw_298 dX9_wasInOtherRing_22 ?_
        refine lv_iload_n hx hb dX9_wasInOtherRing_25 rfl (lv_at hl 1 rfl) ?_
        refine lv_icmp_eq (tgt := 31) hx hb dX9_wasInOtherRing_26 (by decide) (fun hc => ?_) (fun hc => ?_)
        · replace h := if_t h hc
          refine lv_iinc (v := x2 + 1) (lv' := [(2, .int (x2 + 1)), (0, .ref (adr Γ (kW i0))), (1, .int x1)]) hx hb dX9_wasInOtherRing_31 hl (k := 2) rfl rfl (by decide) rfl (fun ls hl => ?_)
          refine lv_goto (tgt := 2) hx hb dX9_wasInOtherRing_34 (by decide) ?_
          exact ih  (x2 + 1) h _ _ _ hH (lv_sub hl [1, 2, 0] rfl)
        · replace h := if_f h hc
          refine lv_iconst (v := 1) hx hb dX9_wasInOtherRing_29 (by decide) ?_
          cases h
          exact e_int X hH rfl dX9_wasInOtherRing_30
/-- CutoffMill$Works.wasInOtherRing(I)Z -/
def m_X9_wasInOtherRing (σ : Sg) (i0 : Nat) (x1 : Int32) : Option Int32 := m_X9_wasInOtherRing_2 σ i0 x1 1000 0
set_option maxHeartbeats 4000000 in
set_option maxRecDepth 100000 in
theorem c_X9_wasInOtherRing (l : Launch) {Γ : GG} (hJ : IJ Γ) (σ : Sg) (i0 : Nat) (hi0 : i0 < 2) (x1 : Int32) (rf : Int32) (h : m_X9_wasInOtherRing σ i0 x1 = some rf) : CI l yX9_wasInOtherRing (wy yX9_wasInOtherRing cX9_wasInOtherRing 3 (some .boolean)) { frames := 1, cells := 0, slots := 0, locals := 21 } Γ σ [.ref (adr Γ (kW i0)), .int x1] σ rf := by
  refine met_of (by decide +kernel) hJ (Nat.le_of_ble_eq_true rfl) (fun p e s m below meth c ls X hH hl => ?_)
  have hl : lv_has ls 3 [(0, .ref (adr Γ (kW i0))), (1, .int x1)] := hl
  have hx := X.1.1
  have hb := X.1.2.1
  rw [m_X9_wasInOtherRing] at h
  refine lv_iconst (v := 0) hx hb dX9_wasInOtherRing_0 (by decide) ?_
  refine lv_istore_n (lv' := [(2, .int 0), (0, .ref (adr Γ (kW i0))), (1, .int x1)]) hx hb dX9_wasInOtherRing_1 rfl hl (by decide) rfl (fun ls hl => ?_)
  exact b_X9_wasInOtherRing_2 X σ i0 hi0 x1  1000  0 h _ _ _ hH (lv_sub hl [1, 2, 0] rfl)
/-- CutoffMill$Works.resultOf(I)LCutoffMill$Result; -/
def m_X9_resultOf (σ : Sg) (i0 : Nat) (x1 : Int32) : Option Nat := bnd (m_X6_smallestOf σ x1) (fun r102 => if r102 = ((-1)) then some (20 * i0) else chk (inb r102 (lenP 0 i0)) (bnd (σ.2.2 0 i0 r102.toNatClampNeg) (fun r105 => chk (decide (r105 < 30)) (some r105))))
set_option maxHeartbeats 4000000 in
set_option maxRecDepth 100000 in
theorem c_X9_resultOf (l : Launch) {Γ : GG} (hJ : IJ Γ) (σ : Sg) (i0 : Nat) (hi0 : i0 < 2) (x1 : Int32) (rf : Nat) (h : m_X9_resultOf σ i0 x1 = some rf) : CR l yX9_resultOf (wy yX9_resultOf cX9_resultOf 3 (some (.object "CutoffMill$Result"))) { frames := 2, cells := 0, slots := 0, locals := 42 } Γ σ [.ref (adr Γ (kW i0)), .int x1] σ rf := by
  refine met_of (by decide +kernel) hJ (Nat.le_of_ble_eq_true rfl) (fun p e s m below meth c ls X hH hl => ?_)
  have hl : lv_has ls 3 [(0, .ref (adr Γ (kW i0))), (1, .int x1)] := hl
  have hx := X.1.1
  have hb := X.1.2.1
  rw [m_X9_resultOf] at h
  refine lv_iload_n hx hb dX9_resultOf_0 rfl (lv_at hl 1 rfl) ?_
  obtain ⟨r102, hq101, h⟩ := bnd_some h
  refine r_callSI X.1 hl hH (As := [.int x1]) (rest := []) (c_X6_smallestOf l X.1.2.2.2.2.2.2.1 σ x1 _ hq101) (cw_S X.1 1 mw_278 mw_308 mw_277 mw_20 rfl rfl (by decide +kernel) ⟨Nat.le_of_ble_eq_true rfl, Nat.le_of_ble_eq_true rfl⟩) rfl rfl (Nat.le_of_ble_eq_true rfl) dX9_resultOf_1 ⟨Nat.zero_le _, Nat.zero_le _⟩ (fun H locs hH => ?_)
  refine lv_istore_n (lv' := [(2, .int r102), (0, .ref (adr Γ (kW i0))), (1, .int x1)]) hx hb dX9_resultOf_4 rfl hl (by decide) rfl (fun ls hl => ?_)
  refine lv_iload_n hx hb dX9_resultOf_5 rfl (lv_at hl 0 rfl) ?_
  refine lv_iconst (v := (-1)) hx hb dX9_resultOf_6 (by decide) ?_
  refine lv_icmp_ne (tgt := 17) hx hb dX9_resultOf_7 (by decide) (fun hc => ?_) (fun hc => ?_)
  · replace h := if_f h hc
    refine lv_aload_n hx hb dX9_resultOf_17 rfl (lv_at hl 1 rfl) ?_
    refine r_get X.1 hH (kW_lt hi0) (dW0 _ hi0) rfl inlX9 5 (by decide) (v := .ref (adr Γ (kW i0 + 3))) rfl mw_63 dX9_resultOf_18 ?_
    refine lv_iload_n hx hb dX9_resultOf_21 rfl (lv_at hl 0 rfl) ?_
    obtain ⟨hg104, h⟩ := chk_some h
    obtain ⟨r105, he106, h⟩ := bnd_some h
    obtain ⟨hr105, h⟩ := chk_some h
    replace hr105 := of_decide_eq_true hr105
    refine r_ald X.1 hH (lW _ hi0 3 (by decide)) (dW3 _ hi0) hg104 he106 dX9_resultOf_22 ?_
    cases h
    exact e_ref X hH dX9_resultOf_23
  · replace h := if_t h hc
    refine lv_aload_n hx hb dX9_resultOf_10 rfl (lv_at hl 1 rfl) ?_
    refine r_get X.1 hH (kW_lt hi0) (dW0 _ hi0) rfl inlX9 6 (by decide) (v := .ref (adr Γ (kR (20 * i0)))) rfl mw_73 dX9_resultOf_11 ?_
    refine lv_goto (tgt := 23) hx hb dX9_resultOf_14 (by decide) ?_
    cases h
    exact e_ref X hH dX9_resultOf_23
def m_X8_isSame_57 (σ : Sg) (i0 : Nat) (i1 : Nat) (x2 : Int32)  : Nat → Int32 → Option Int32
  | 0, _ => none
  | n + 1, x3 => if ((x2 * (16 : Int32)) + (16 : Int32)) ≤ x3 then some 1 else chk (inb x3 128) (chk (inb x3 128) (if (σ.1 26 i0 x3.toNatClampNeg) = (σ.1 26 i1 x3.toNatClampNeg) then m_X8_isSame_57 σ i0 i1 x2 n (x3 + 1) else some 0))
set_option maxHeartbeats 4000000 in
set_option maxRecDepth 100000 in
theorem b_X8_isSame_57 {p : Program} {l : Launch} {e : Env} {s : State} {m : MethodId} {args : Array Value} {below : List Frame} {meth : Method} {c : Code} {Γ : GG} (X : MB Γ p s m args meth c cX8_isSame 4 RX8 (some .boolean)) (σ : Sg) {rf : Int32} (i0 : Nat) (hi0 : i0 < 32) (i1 : Nat) (hi1 : i1 < 32) (x2 : Int32) : ∀ (n : Nat), (∀ (x3 : Int32), (m_X8_isSame_57 σ i0 i1 x2 n) x3 = some rf → ∀ (H : Heap) (locs : List Loc) (ls : Array Slot), HW (IA Γ) Γ σ s.heap H locs → lv_has ls 4 [(0, .ref (adr Γ (kT i0))), (1, .ref (adr Γ (kT i1))), (2, .int x2), (3, .int x3)] → W p l e ({ frames := 1, cells := 0, slots := 0, locals := 22 } : Room) s m args below meth c H locs 0 0 (QI Γ σ rf below args s) (F0 m 57 ls [])) := by
  have hx := X.1.1
  have hb := X.1.2.1
  intro n
  induction n with
  | zero => intro x3 h; rw [m_X8_isSame_57] at h; cases h
  | succ n ih =>
    intro x3 h H locs ls hH hl
    rw [m_X8_isSame_57] at h
    refine lv_iload_n hx hb dX8_isSame_57 rfl (lv_at hl 3 rfl) ?_
    refine lv_iload_n hx hb dX8_isSame_58 rfl (lv_at hl 2 rfl) ?_
    refine lv_bipush (v := 16) hx hb dX8_isSame_59 (by decide) ?_
    refine lv_imul hx hb dX8_isSame_61 ?_
    refine lv_bipush (v := 16) hx hb dX8_isSame_62 (by decide) ?_
    refine lv_iadd hx hb dX8_isSame_64 ?_
    refine lv_icmp_ge (tgt := 91) hx hb dX8_isSame_65 (by decide) (fun hc => ?_) (fun hc => ?_)
    · replace h := if_t h hc
      refine lv_iconst (v := 1) hx hb dX8_isSame_91 (by decide) ?_
      cases h
      exact e_int X hH rfl dX8_isSame_92
    · replace h := if_f h hc
      refine lv_aload_n hx hb dX8_isSame_68 rfl (lv_at hl 0 rfl) ?_
      refine r_get X.1 hH (kT_lt (by omega)) (dT0 _ (by omega)) rfl inlX8 0 (by decide) (v := .ref (adr Γ (kT i0 + 1))) rfl mw_33 dX8_isSame_69 ?_
      refine lv_iload_n hx hb dX8_isSame_72 rfl (lv_at hl 3 rfl) ?_
      obtain ⟨hg104, h⟩ := chk_some h
      refine r_ild X.1 hH (lT1 _ (by omega)) (dT1 _ (by omega)) hg104 dX8_isSame_73 ?_
      refine lv_aload_n hx hb dX8_isSame_74 rfl (lv_at hl 1 rfl) ?_
      refine r_get X.1 hH (kT_lt (by omega)) (dT0 _ (by omega)) rfl inlX8 0 (by decide) (v := .ref (adr Γ (kT i1 + 1))) rfl mw_33 dX8_isSame_75 ?_
      refine lv_iload_n hx hb dX8_isSame_78 rfl (lv_at hl 3 rfl) ?_
      obtain ⟨hg105, h⟩ := chk_some h
      refine r_ild X.1 hH (lT1 _ (by omega)) (dT1 _ (by omega)) hg105 dX8_isSame_79 ?_
      refine lv_icmp_eq (tgt := 85) hx hb dX8_isSame_80 (by decide) (fun hc => ?_) (fun hc => ?_)
      · replace h := if_t h hc
        refine lv_iinc (v := x3 + 1) (lv' := [(3, .int (x3 + 1)), (0, .ref (adr Γ (kT i0))), (1, .ref (adr Γ (kT i1))), (2, .int x2)]) hx hb dX8_isSame_85 hl (k := 3) rfl rfl (by decide) rfl (fun ls hl => ?_)
        refine lv_goto (tgt := 57) hx hb dX8_isSame_88 (by decide) ?_
        exact ih  (x3 + 1) h _ _ _ hH (lv_sub hl [1, 2, 3, 0] rfl)
      · replace h := if_f h hc
        refine lv_iconst (v := 0) hx hb dX8_isSame_83 (by decide) ?_
        cases h
        exact e_int X hH rfl dX8_isSame_84
def m_X8_isSame_19 (σ : Sg) (i0 : Nat) (i1 : Nat) (x2 : Int32)  : Nat → Int32 → Option Int32
  | 0, _ => none
  | n + 1, x3 => chk (inb x2 8) (if (σ.1 28 i0 x2.toNatClampNeg) ≤ x3 then m_X8_isSame_57 σ i0 i1 x2 1000 (x2 * (16 : Int32)) else bnd (m_X8_importAt σ i0 x2 x3) (fun r107 => bnd (m_X8_importAt σ i1 x2 x3) (fun r110 => if r107 = r110 then m_X8_isSame_19 σ i0 i1 x2 n (x3 + 1) else some 0)))
set_option maxHeartbeats 4000000 in
set_option maxRecDepth 100000 in
theorem b_X8_isSame_19 {p : Program} {l : Launch} {e : Env} {s : State} {m : MethodId} {args : Array Value} {below : List Frame} {meth : Method} {c : Code} {Γ : GG} (X : MB Γ p s m args meth c cX8_isSame 4 RX8 (some .boolean)) (σ : Sg) {rf : Int32} (i0 : Nat) (hi0 : i0 < 32) (i1 : Nat) (hi1 : i1 < 32) (x2 : Int32) : ∀ (n : Nat), (∀ (x3 : Int32), (m_X8_isSame_19 σ i0 i1 x2 n) x3 = some rf → ∀ (H : Heap) (locs : List Loc) (ls : Array Slot), HW (IA Γ) Γ σ s.heap H locs → lv_has ls 4 [(0, .ref (adr Γ (kT i0))), (1, .ref (adr Γ (kT i1))), (2, .int x2), (3, .int x3)] → W p l e ({ frames := 1, cells := 0, slots := 0, locals := 22 } : Room) s m args below meth c H locs 0 0 (QI Γ σ rf below args s) (F0 m 19 ls [])) := by
  have hx := X.1.1
  have hb := X.1.2.1
  intro n
  induction n with
  | zero => intro x3 h; rw [m_X8_isSame_19] at h; cases h
  | succ n ih =>
    intro x3 h H locs ls hH hl
    rw [m_X8_isSame_19] at h
    refine lv_iload_n hx hb dX8_isSame_19 rfl (lv_at hl 3 rfl) ?_
    refine lv_aload_n hx hb dX8_isSame_20 rfl (lv_at hl 0 rfl) ?_
    refine r_get X.1 hH (kT_lt (by omega)) (dT0 _ (by omega)) rfl inlX8 2 (by decide) (v := .ref (adr Γ (kT i0 + 3))) rfl mw_35 dX8_isSame_21 ?_
    refine lv_iload_n hx hb dX8_isSame_24 rfl (lv_at hl 2 rfl) ?_
    obtain ⟨hg103, h⟩ := chk_some h
    refine r_ild X.1 hH (lT3 _ (by omega)) (dT3 _ (by omega)) hg103 dX8_isSame_25 ?_
    refine lv_icmp_ge (tgt := 52) hx hb dX8_isSame_26 (by decide) (fun hc => ?_) (fun hc => ?_)
    · replace h := if_t h hc
      refine lv_iload_n hx hb dX8_isSame_52 rfl (lv_at hl 2 rfl) ?_
      refine lv_bipush (v := 16) hx hb dX8_isSame_53 (by decide) ?_
      refine lv_imul hx hb dX8_isSame_55 ?_
      refine lv_istore_n (lv' := [(3, .int (x2 * (16 : Int32))), (0, .ref (adr Γ (kT i0))), (1, .ref (adr Γ (kT i1))), (2, .int x2)]) hx hb dX8_isSame_56 rfl hl (by decide) rfl (fun ls hl => ?_)
      exact b_X8_isSame_57 X σ i0 hi0 i1 hi1 x2  1000  (x2 * (16 : Int32)) h _ _ _ hH (lv_sub hl [1, 2, 3, 0] rfl)
    · replace h := if_f h hc
      refine lv_aload_n hx hb dX8_isSame_29 rfl (lv_at hl 0 rfl) ?_
      refine lv_iload_n hx hb dX8_isSame_30 rfl (lv_at hl 2 rfl) ?_
      refine lv_iload_n hx hb dX8_isSame_31 rfl (lv_at hl 3 rfl) ?_
      obtain ⟨r107, hq106, h⟩ := bnd_some h
      refine r_callVI X.1 hl hH (As := [.int x2, .int x3]) (rest := []) (c_X8_importAt l X.1.2.2.2.2.2.2.1 σ i0 (by omega) x2 x3 _ hq106) (cw_V X.1 2 mw_159 mw_318 mw_157 mw_158 mw_12 rfl rfl (by decide +kernel) ⟨Nat.le_of_ble_eq_true rfl, Nat.le_of_ble_eq_true rfl⟩) (r_recv X.1 hH (kT_lt (by omega)) (dT0 _ (by omega)) rfl) rfl rfl (Nat.le_of_ble_eq_true rfl) dX8_isSame_32 ⟨Nat.zero_le _, Nat.zero_le _⟩ (fun H locs hH => ?_)
      refine lv_aload_n hx hb dX8_isSame_35 rfl (lv_at hl 1 rfl) ?_
      refine lv_iload_n hx hb dX8_isSame_36 rfl (lv_at hl 2 rfl) ?_
      refine lv_iload_n hx hb dX8_isSame_37 rfl (lv_at hl 3 rfl) ?_
      obtain ⟨r110, hq109, h⟩ := bnd_some h
      refine r_callVI X.1 hl hH (As := [.int x2, .int x3]) (rest := [.int r107]) (c_X8_importAt l X.1.2.2.2.2.2.2.1 σ i1 (by omega) x2 x3 _ hq109) (cw_V X.1 2 mw_159 mw_318 mw_157 mw_158 mw_12 rfl rfl (by decide +kernel) ⟨Nat.le_of_ble_eq_true rfl, Nat.le_of_ble_eq_true rfl⟩) (r_recv X.1 hH (kT_lt (by omega)) (dT0 _ (by omega)) rfl) rfl rfl (Nat.le_of_ble_eq_true rfl) dX8_isSame_38 ⟨Nat.zero_le _, Nat.zero_le _⟩ (fun H locs hH => ?_)
      refine lv_icmp_eq (tgt := 46) hx hb dX8_isSame_41 (by decide) (fun hc => ?_) (fun hc => ?_)
      · replace h := if_t h hc
        refine lv_iinc (v := x3 + 1) (lv' := [(3, .int (x3 + 1)), (0, .ref (adr Γ (kT i0))), (1, .ref (adr Γ (kT i1))), (2, .int x2)]) hx hb dX8_isSame_46 hl (k := 3) rfl rfl (by decide) rfl (fun ls hl => ?_)
        refine lv_goto (tgt := 19) hx hb dX8_isSame_49 (by decide) ?_
        exact ih  (x3 + 1) h _ _ _ hH (lv_sub hl [1, 2, 3, 0] rfl)
      · replace h := if_f h hc
        refine lv_iconst (v := 0) hx hb dX8_isSame_44 (by decide) ?_
        cases h
        exact e_int X hH rfl dX8_isSame_45
/-- CutoffMill$Texts.isSame(LCutoffMill$Texts;I)Z -/
def m_X8_isSame (σ : Sg) (i0 : Nat) (i1 : Nat) (x2 : Int32) : Option Int32 := chk (inb x2 8) (chk (inb x2 8) (if (σ.1 28 i0 x2.toNatClampNeg) = (σ.1 28 i1 x2.toNatClampNeg) then m_X8_isSame_19 σ i0 i1 x2 1000 0 else some 0))
set_option maxHeartbeats 4000000 in
set_option maxRecDepth 100000 in
theorem c_X8_isSame (l : Launch) {Γ : GG} (hJ : IJ Γ) (σ : Sg) (i0 : Nat) (hi0 : i0 < 32) (i1 : Nat) (hi1 : i1 < 32) (x2 : Int32) (rf : Int32) (h : m_X8_isSame σ i0 i1 x2 = some rf) : CI l yX8_isSame (wy yX8_isSame cX8_isSame 4 (some .boolean)) { frames := 1, cells := 0, slots := 0, locals := 22 } Γ σ [.ref (adr Γ (kT i0)), .ref (adr Γ (kT i1)), .int x2] σ rf := by
  refine met_of (by decide +kernel) hJ (Nat.le_of_ble_eq_true rfl) (fun p e s m below meth c ls X hH hl => ?_)
  have hl : lv_has ls 4 [(0, .ref (adr Γ (kT i0))), (1, .ref (adr Γ (kT i1))), (2, .int x2)] := hl
  have hx := X.1.1
  have hb := X.1.2.1
  rw [m_X8_isSame] at h
  refine lv_aload_n hx hb dX8_isSame_0 rfl (lv_at hl 0 rfl) ?_
  refine r_get X.1 hH (kT_lt (by omega)) (dT0 _ (by omega)) rfl inlX8 2 (by decide) (v := .ref (adr Γ (kT i0 + 3))) rfl mw_35 dX8_isSame_1 ?_
  refine lv_iload_n hx hb dX8_isSame_4 rfl (lv_at hl 2 rfl) ?_
  obtain ⟨hg101, h⟩ := chk_some h
  refine r_ild X.1 hH (lT3 _ (by omega)) (dT3 _ (by omega)) hg101 dX8_isSame_5 ?_
  refine lv_aload_n hx hb dX8_isSame_6 rfl (lv_at hl 1 rfl) ?_
  refine r_get X.1 hH (kT_lt (by omega)) (dT0 _ (by omega)) rfl inlX8 2 (by decide) (v := .ref (adr Γ (kT i1 + 3))) rfl mw_35 dX8_isSame_7 ?_
  refine lv_iload_n hx hb dX8_isSame_10 rfl (lv_at hl 2 rfl) ?_
  obtain ⟨hg102, h⟩ := chk_some h
  refine r_ild X.1 hH (lT3 _ (by omega)) (dT3 _ (by omega)) hg102 dX8_isSame_11 ?_
  refine lv_icmp_eq (tgt := 17) hx hb dX8_isSame_12 (by decide) (fun hc => ?_) (fun hc => ?_)
  · replace h := if_t h hc
    refine lv_iconst (v := 0) hx hb dX8_isSame_17 (by decide) ?_
    refine lv_istore_n (lv' := [(3, .int 0), (0, .ref (adr Γ (kT i0))), (1, .ref (adr Γ (kT i1))), (2, .int x2)]) hx hb dX8_isSame_18 rfl hl (by decide) rfl (fun ls hl => ?_)
    exact b_X8_isSame_19 X σ i0 hi0 i1 hi1 x2  1000  0 h _ _ _ hH (lv_sub hl [1, 2, 3, 0] rfl)
  · replace h := if_f h hc
    refine lv_iconst (v := 0) hx hb dX8_isSame_15 (by decide) ?_
    cases h
    exact e_int X hH rfl dX8_isSame_16
def m_X9_firstOtherText_2 (σ : Sg) (i0 : Nat) (i1 : Nat)  : Nat → Int32 → Option Int32
  | 0, _ => none
  | n + 1, x2 => if 8 ≤ x2 then some ((-1)) else bnd (m_X6_has σ (σ.1 30 i1 0) x2) (fun r102 => if r102 = 0 then m_X9_firstOtherText_2 σ i0 i1 n (x2 + 1) else bnd (m_X8_isSame σ i0 (i1 + 2) x2) (fun r105 => if r105 = 0 then some x2 else m_X9_firstOtherText_2 σ i0 i1 n (x2 + 1)))
set_option maxHeartbeats 4000000 in
set_option maxRecDepth 100000 in
theorem b_X9_firstOtherText_2 {p : Program} {l : Launch} {e : Env} {s : State} {m : MethodId} {args : Array Value} {below : List Frame} {meth : Method} {c : Code} {Γ : GG} (X : MB Γ p s m args meth c cX9_firstOtherText 3 RX9 (some .int)) (σ : Sg) {rf : Int32} (i0 : Nat) (hi0 : i0 < 2) (i1 : Nat) (hi1 : i1 < 30) : ∀ (n : Nat), (∀ (x2 : Int32), (m_X9_firstOtherText_2 σ i0 i1 n) x2 = some rf → ∀ (H : Heap) (locs : List Loc) (ls : Array Slot), HW (IA Γ) Γ σ s.heap H locs → lv_has ls 3 [(0, .ref (adr Γ (kW i0))), (1, .ref (adr Γ (kR i1))), (2, .int x2)] → W p l e ({ frames := 2, cells := 0, slots := 0, locals := 45 } : Room) s m args below meth c H locs 0 0 (QI Γ σ rf below args s) (F0 m 2 ls [])) := by
  have hx := X.1.1
  have hb := X.1.2.1
  intro n
  induction n with
  | zero => intro x2 h; rw [m_X9_firstOtherText_2] at h; cases h
  | succ n ih =>
    intro x2 h H locs ls hH hl
    rw [m_X9_firstOtherText_2] at h
    refine lv_iload_n hx hb dX9_firstOtherText_2 rfl (lv_at hl 2 rfl) ?_
    refine lv_bipush (v := 8) hx hb dX9_firstOtherText_3 (by decide) ?_
    refine lv_icmp_ge (tgt := 42) hx hb dX9_firstOtherText_5 (by decide) (fun hc => ?_) (fun hc => ?_)
    · replace h := if_t h hc
      refine lv_iconst (v := (-1)) hx hb dX9_firstOtherText_42 (by decide) ?_
      cases h
      exact e_int X hH rfl dX9_firstOtherText_43
    · replace h := if_f h hc
      refine lv_aload_n hx hb dX9_firstOtherText_8 rfl (lv_at hl 1 rfl) ?_
      refine r_get X.1 hH (kR_lt hi1) (dR0 _ hi1) rfl inlX5 0 (by decide) (v := .int (σ.1 30 i1 0)) rfl mw_298 dX9_firstOtherText_9 ?_
      refine lv_iload_n hx hb dX9_firstOtherText_12 rfl (lv_at hl 2 rfl) ?_
      obtain ⟨r102, hq101, h⟩ := bnd_some h
      refine r_callSI X.1 hl hH (As := [.int (σ.1 30 i1 0), .int x2]) (rest := []) (c_X6_has l X.1.2.2.2.2.2.2.1 σ (σ.1 30 i1 0) x2 _ hq101) (cw_S X.1 2 mw_204 mw_299 mw_203 mw_20 rfl rfl (by decide +kernel) ⟨Nat.le_of_ble_eq_true rfl, Nat.le_of_ble_eq_true rfl⟩) rfl rfl (Nat.le_of_ble_eq_true rfl) dX9_firstOtherText_13 ⟨Nat.zero_le _, Nat.zero_le _⟩ (fun H locs hH => ?_)
      refine lv_if_eq (tgt := 36) hx hb dX9_firstOtherText_16 (by decide) (fun hc => ?_) (fun hc => ?_)
      · replace h := if_t h hc
        refine lv_iinc (v := x2 + 1) (lv' := [(2, .int (x2 + 1)), (0, .ref (adr Γ (kW i0))), (1, .ref (adr Γ (kR i1)))]) hx hb dX9_firstOtherText_36 hl (k := 2) rfl rfl (by decide) rfl (fun ls hl => ?_)
        refine lv_goto (tgt := 2) hx hb dX9_firstOtherText_39 (by decide) ?_
        exact ih  (x2 + 1) h _ _ _ hH (lv_sub hl [1, 2, 0] rfl)
      · replace h := if_f h hc
        refine lv_aload_n hx hb dX9_firstOtherText_19 rfl (lv_at hl 0 rfl) ?_
        refine r_get X.1 hH (kW_lt hi0) (dW0 _ hi0) rfl inlX9 0 (by decide) (v := .ref (adr Γ (kT i0))) rfl mw_64 dX9_firstOtherText_20 ?_
        refine lv_aload_n hx hb dX9_firstOtherText_23 rfl (lv_at hl 1 rfl) ?_
        refine r_get X.1 hH (kR_lt hi1) (dR0 _ hi1) rfl inlX5 1 (by decide) (v := .ref (adr Γ (kT (i1 + 2)))) rfl mw_313 dX9_firstOtherText_24 ?_
        refine lv_iload_n hx hb dX9_firstOtherText_27 rfl (lv_at hl 2 rfl) ?_
        obtain ⟨r105, hq104, h⟩ := bnd_some h
        refine r_callVI X.1 hl hH (As := [.ref (adr Γ (kT (i1 + 2))), .int x2]) (rest := []) (c_X8_isSame l X.1.2.2.2.2.2.2.1 σ i0 (by omega) (i1 + 2) (by omega) x2 _ hq104) (cw_V X.1 2 mw_317 mw_314 mw_315 mw_316 mw_12 rfl rfl (by decide +kernel) ⟨Nat.le_of_ble_eq_true rfl, Nat.le_of_ble_eq_true rfl⟩) (r_recv X.1 hH (kT_lt (by omega)) (dT0 _ (by omega)) rfl) rfl rfl (Nat.le_of_ble_eq_true rfl) dX9_firstOtherText_28 ⟨Nat.zero_le _, Nat.zero_le _⟩ (fun H locs hH => ?_)
        refine lv_if_ne (tgt := 36) hx hb dX9_firstOtherText_31 (by decide) (fun hc => ?_) (fun hc => ?_)
        · replace h := if_f h hc
          refine lv_iinc (v := x2 + 1) (lv' := [(2, .int (x2 + 1)), (0, .ref (adr Γ (kW i0))), (1, .ref (adr Γ (kR i1)))]) hx hb dX9_firstOtherText_36 hl (k := 2) rfl rfl (by decide) rfl (fun ls hl => ?_)
          refine lv_goto (tgt := 2) hx hb dX9_firstOtherText_39 (by decide) ?_
          exact ih  (x2 + 1) h _ _ _ hH (lv_sub hl [1, 2, 0] rfl)
        · replace h := if_t h hc
          refine lv_iload_n hx hb dX9_firstOtherText_34 rfl (lv_at hl 2 rfl) ?_
          cases h
          exact e_int X hH rfl dX9_firstOtherText_35
/-- CutoffMill$Works.firstOtherText(LCutoffMill$Result;)I -/
def m_X9_firstOtherText (σ : Sg) (i0 : Nat) (i1 : Nat) : Option Int32 := m_X9_firstOtherText_2 σ i0 i1 1000 0
set_option maxHeartbeats 4000000 in
set_option maxRecDepth 100000 in
theorem c_X9_firstOtherText (l : Launch) {Γ : GG} (hJ : IJ Γ) (σ : Sg) (i0 : Nat) (hi0 : i0 < 2) (i1 : Nat) (hi1 : i1 < 30) (rf : Int32) (h : m_X9_firstOtherText σ i0 i1 = some rf) : CI l yX9_firstOtherText (wy yX9_firstOtherText cX9_firstOtherText 3 (some .int)) { frames := 2, cells := 0, slots := 0, locals := 45 } Γ σ [.ref (adr Γ (kW i0)), .ref (adr Γ (kR i1))] σ rf := by
  refine met_of (by decide +kernel) hJ (Nat.le_of_ble_eq_true rfl) (fun p e s m below meth c ls X hH hl => ?_)
  have hl : lv_has ls 3 [(0, .ref (adr Γ (kW i0))), (1, .ref (adr Γ (kR i1)))] := hl
  have hx := X.1.1
  have hb := X.1.2.1
  rw [m_X9_firstOtherText] at h
  refine lv_iconst (v := 0) hx hb dX9_firstOtherText_0 (by decide) ?_
  refine lv_istore_n (lv' := [(2, .int 0), (0, .ref (adr Γ (kW i0))), (1, .ref (adr Γ (kR i1)))]) hx hb dX9_firstOtherText_1 rfl hl (by decide) rfl (fun ls hl => ?_)
  exact b_X9_firstOtherText_2 X σ i0 hi0 i1 hi1  1000  0 h _ _ _ hH (lv_sub hl [1, 2, 0] rfl)
