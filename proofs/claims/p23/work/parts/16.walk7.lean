/-! WALKS, laid by wip/p23/gen.py: X1_isProcedure, X3_targetOf, X3_findMembers, X10_clear, X3_directFault, X3_findDirectFaults, X3_comesBack -/
/-- CutoffMill$Declaration.isProcedure(I)Z -/
def m_X1_isProcedure (σ : Sg) (x0 : Int32) : Option Int32 := if ((x0 >>> ((1 : Int32) &&& 31)) &&& (1 : Int32)) = 1 then some 1 else some 0
set_option maxHeartbeats 4000000 in
set_option maxRecDepth 100000 in
theorem c_X1_isProcedure (l : Launch) {Γ : GG} (hJ : IJ Γ) (σ : Sg) (x0 : Int32) (rf : Int32) (h : m_X1_isProcedure σ x0 = some rf) : CI l yX1_isProcedure (wy yX1_isProcedure cX1_isProcedure 1 (some .boolean)) { frames := 0, cells := 0, slots := 0, locals := 0 } Γ σ [.int x0] σ rf := by
  refine met_of (by decide +kernel) hJ (Nat.le_of_ble_eq_true rfl) (fun p e s m below meth c ls X hH hl => ?_)
  have hl : lv_has ls 1 [(0, .int x0)] := hl
  have hx := X.1.1
  have hb := X.1.2.1
  rw [m_X1_isProcedure] at h
  refine lv_iload_n hx hb dX1_isProcedure_0 rfl (lv_at hl 0 rfl) ?_
  refine lv_iconst (v := 1) hx hb dX1_isProcedure_1 (by decide) ?_
  refine lv_ishr hx hb dX1_isProcedure_2 ?_
  refine lv_iconst (v := 1) hx hb dX1_isProcedure_3 (by decide) ?_
  refine lv_iand hx hb dX1_isProcedure_4 ?_
  refine lv_iconst (v := 1) hx hb dX1_isProcedure_5 (by decide) ?_
  refine lv_icmp_ne (tgt := 13) hx hb dX1_isProcedure_6 (by decide) (fun hc => ?_) (fun hc => ?_)
  · replace h := if_f h hc
    refine lv_iconst (v := 0) hx hb dX1_isProcedure_13 (by decide) ?_
    cases h
    exact e_int X hH rfl dX1_isProcedure_14
  · replace h := if_t h hc
    refine lv_iconst (v := 1) hx hb dX1_isProcedure_9 (by decide) ?_
    refine lv_goto (tgt := 14) hx hb dX1_isProcedure_10 (by decide) ?_
    cases h
    exact e_int X hH rfl dX1_isProcedure_14
/-- CutoffMill$Maker.targetOf(II)I -/
def m_X3_targetOf (σ : Sg) (i0 : Nat) (x1 : Int32) (x2 : Int32) : Option Int32 := if x2 = ((-1)) then some ((-3)) else chk (inb (((x1 / (16 : Int32)) * (16 : Int32)) + x2) 128) (some (σ.1 7 0 (((x1 / (16 : Int32)) * (16 : Int32)) + x2).toNatClampNeg))
set_option maxHeartbeats 4000000 in
set_option maxRecDepth 100000 in
theorem c_X3_targetOf (l : Launch) {Γ : GG} (hJ : IJ Γ) (σ : Sg) (i0 : Nat) (hi0 : i0 < 2) (x1 : Int32) (x2 : Int32) (rf : Int32) (h : m_X3_targetOf σ i0 x1 x2 = some rf) : CI l yX3_targetOf (wy yX3_targetOf cX3_targetOf 3 (some .int)) { frames := 0, cells := 0, slots := 0, locals := 0 } Γ σ [.ref (adr Γ (kW i0 + 5)), .int x1, .int x2] σ rf := by
  refine met_of (by decide +kernel) hJ (Nat.le_of_ble_eq_true rfl) (fun p e s m below meth c ls X hH hl => ?_)
  have hl : lv_has ls 3 [(0, .ref (adr Γ (kW i0 + 5))), (1, .int x1), (2, .int x2)] := hl
  have hx := X.1.1
  have hb := X.1.2.1
  rw [m_X3_targetOf] at h
  refine lv_iload_n hx hb dX3_targetOf_0 rfl (lv_at hl 2 rfl) ?_
  refine lv_iconst (v := (-1)) hx hb dX3_targetOf_1 (by decide) ?_
  refine lv_icmp_ne (tgt := 10) hx hb dX3_targetOf_2 (by decide) (fun hc => ?_) (fun hc => ?_)
  · replace h := if_f h hc
    refine lv_aload_n hx hb dX3_targetOf_10 rfl (lv_at hl 0 rfl) ?_
    refine r_get X.1 hH (lW _ hi0 5 (by decide)) (dW5 _ hi0) rfl inlX3 0 (by decide) (v := .ref (adr Γ 4)) rfl mw_121 dX3_targetOf_11 ?_
    refine r_get X.1 hH (by decide) rfl rfl inlX4 2 (by decide) (v := .ref (adr Γ 6)) rfl mw_464 dX3_targetOf_14 ?_
    refine lv_iload_n hx hb dX3_targetOf_17 rfl (lv_at hl 1 rfl) ?_
    refine lv_bipush (v := 16) hx hb dX3_targetOf_18 (by decide) ?_
    refine lv_idiv hx hb dX3_targetOf_20 (by decide) ?_
    refine lv_bipush (v := 16) hx hb dX3_targetOf_21 (by decide) ?_
    refine lv_imul hx hb dX3_targetOf_23 ?_
    refine lv_iload_n hx hb dX3_targetOf_24 rfl (lv_at hl 2 rfl) ?_
    refine lv_iadd hx hb dX3_targetOf_25 ?_
    obtain ⟨hg101, h⟩ := chk_some h
    refine r_ild X.1 hH (by decide) rfl hg101 dX3_targetOf_26 ?_
    cases h
    exact e_int X hH rfl dX3_targetOf_27
  · replace h := if_t h hc
    refine lv_bipush (v := (-3)) hx hb dX3_targetOf_5 (by decide) ?_
    refine lv_goto (tgt := 27) hx hb dX3_targetOf_7 (by decide) ?_
    cases h
    exact e_int X hH rfl dX3_targetOf_27
def m_X3_findMembers_7 (i0 : Nat) (i1 : Nat)  : Nat → Sg → Int32 → Option Sg
  | 0, _, _ => none
  | n + 1, σ, x2 => if 128 ≤ x2 then some σ else bnd (m_X6_has σ (σ.1 30 i1 0) (x2 / (16 : Int32))) (fun r104 => if r104 = 0 then m_X3_findMembers_7 i0 i1 n σ (x2 + 1) else bnd (m_X8_isDeclared σ (i1 + 2) x2) (fun r107 => if r107 = 0 then m_X3_findMembers_7 i0 i1 n σ (x2 + 1) else chk (inb (σ.1 20 i0 0) 128) (st (wI σ 21 i0 (σ.1 20 i0 0).toNatClampNeg x2) (fun σ110 => st (wI σ110 20 i0 0 ((σ110.1 20 i0 0) + (1 : Int32))) (fun σ112 => chk (inb x2 128) (bnd (m_X1_isProcedure σ112 (σ112.1 26 (i1 + 2) x2.toNatClampNeg)) (fun r116 => chk (inb x2 128) (chk (zb r116) (st (wI σ112 32 i1 x2.toNatClampNeg r116) (fun σ120 => bnd (m_X1_reference σ120 (σ112.1 26 (i1 + 2) x2.toNatClampNeg) 0) (fun r123 => bnd (m_X3_targetOf σ120 i0 x2 r123) (fun r126 => chk (inb ((2 : Int32) * x2) 256) (st (wI σ120 22 i0 ((2 : Int32) * x2).toNatClampNeg r126) (fun σ129 => bnd (m_X1_reference σ129 (σ112.1 26 (i1 + 2) x2.toNatClampNeg) 1) (fun r132 => bnd (m_X3_targetOf σ129 i0 x2 r132) (fun r135 => chk (inb (((2 : Int32) * x2) + (1 : Int32)) 256) (st (wI σ129 22 i0 (((2 : Int32) * x2) + (1 : Int32)).toNatClampNeg r135) (fun σ138 => m_X3_findMembers_7 i0 i1 n σ138 (x2 + 1)))))))))))))))))))
set_option maxHeartbeats 4000000 in
set_option maxRecDepth 100000 in
theorem b_X3_findMembers_7 {p : Program} {l : Launch} {e : Env} {s : State} {m : MethodId} {args : Array Value} {below : List Frame} {meth : Method} {c : Code} {Γ : GG} (X : MB Γ p s m args meth c cX3_findMembers 4 RX3 none) {σf : Sg} {rf : Unit} (i0 : Nat) (hi0 : i0 < 2) (i1 : Nat) (hi1 : i1 < 30) : ∀ (n : Nat), (∀ (σ : Sg) (x2 : Int32), (m_X3_findMembers_7 i0 i1 n) σ x2 = some σf → ∀ (H : Heap) (locs : List Loc) (ls : Array Slot), HW (IA Γ) Γ σ s.heap H locs → lv_has ls 4 [(0, .ref (adr Γ (kW i0 + 5))), (1, .ref (adr Γ (kR i1))), (2, .int x2)] → W p l e ({ frames := 1, cells := 0, slots := 0, locals := 22 } : Room) s m args below meth c H locs 0 0 (QV Γ σf rf below args s) (F0 m 7 ls [])) := by
  have hx := X.1.1
  have hb := X.1.2.1
  intro n
  induction n with
  | zero => intro σ x2 h; rw [m_X3_findMembers_7] at h; cases h
  | succ n ih =>
    intro σ x2 h H locs ls hH hl
    rw [m_X3_findMembers_7] at h
    refine lv_iload_n hx hb dX3_findMembers_7 rfl (lv_at hl 2 rfl) ?_
    refine lv_sipush (v := 128) hx hb dX3_findMembers_8 (by decide) ?_
    refine lv_icmp_ge (tgt := 123) hx hb dX3_findMembers_11 (by decide) (fun hc => ?_) (fun hc => ?_)
    · replace h := if_t h hc
      cases h
      exact e_void (v := rf) X hH dX3_findMembers_123
    · replace h := if_f h hc
      refine lv_aload_n hx hb dX3_findMembers_14 rfl (lv_at hl 1 rfl) ?_
      refine r_get X.1 hH (kR_lt hi1) (dR0 _ hi1) rfl inlX5 0 (by decide) (v := .int (σ.1 30 i1 0)) rfl mw_444 dX3_findMembers_15 ?_
      refine lv_iload_n hx hb dX3_findMembers_18 rfl (lv_at hl 2 rfl) ?_
      refine lv_bipush (v := 16) hx hb dX3_findMembers_19 (by decide) ?_
      refine lv_idiv hx hb dX3_findMembers_21 (by decide) ?_
      obtain ⟨r104, hq103, h⟩ := bnd_some h
      refine r_callSI X.1 hl hH (As := [.int (σ.1 30 i1 0), .int (x2 / (16 : Int32))]) (rest := []) (c_X6_has l X.1.2.2.2.2.2.2.1 σ (σ.1 30 i1 0) (x2 / (16 : Int32)) _ hq103) (cw_S X.1 2 mw_204 mw_447 mw_203 mw_20 rfl rfl (by decide +kernel) ⟨Nat.le_of_ble_eq_true rfl, Nat.le_of_ble_eq_true rfl⟩) rfl rfl (Nat.le_of_ble_eq_true rfl) dX3_findMembers_22 ⟨Nat.zero_le _, Nat.zero_le _⟩ (fun H locs hH => ?_)
      refine lv_if_eq (tgt := 117) hx hb dX3_findMembers_25 (by decide) (fun hc => ?_) (fun hc => ?_)
      · replace h := if_t h hc
        refine lv_iinc (v := x2 + 1) (lv' := [(2, .int (x2 + 1)), (0, .ref (adr Γ (kW i0 + 5))), (1, .ref (adr Γ (kR i1)))]) hx hb dX3_findMembers_117 hl (k := 2) rfl rfl (by decide) rfl (fun ls hl => ?_)
        refine lv_goto (tgt := 7) hx hb dX3_findMembers_120 (by decide) ?_
        exact ih σ (x2 + 1) h _ _ _ hH (lv_sub hl [1, 2, 0] rfl)
      · replace h := if_f h hc
        refine lv_aload_n hx hb dX3_findMembers_28 rfl (lv_at hl 1 rfl) ?_
        refine r_get X.1 hH (kR_lt hi1) (dR0 _ hi1) rfl inlX5 1 (by decide) (v := .ref (adr Γ (kT (i1 + 2)))) rfl mw_452 dX3_findMembers_29 ?_
        refine lv_iload_n hx hb dX3_findMembers_32 rfl (lv_at hl 2 rfl) ?_
        obtain ⟨r107, hq106, h⟩ := bnd_some h
        refine r_callVI X.1 hl hH (As := [.int x2]) (rest := []) (c_X8_isDeclared l X.1.2.2.2.2.2.2.1 σ (i1 + 2) (by omega) x2 _ hq106) (cw_V X.1 1 mw_193 mw_455 mw_191 mw_192 mw_12 rfl rfl (by decide +kernel) ⟨Nat.le_of_ble_eq_true rfl, Nat.le_of_ble_eq_true rfl⟩) (r_recv X.1 hH (kT_lt (by omega)) (dT0 _ (by omega)) rfl) rfl rfl (Nat.le_of_ble_eq_true rfl) dX3_findMembers_33 ⟨Nat.zero_le _, Nat.zero_le _⟩ (fun H locs hH => ?_)
        refine lv_if_eq (tgt := 117) hx hb dX3_findMembers_36 (by decide) (fun hc => ?_) (fun hc => ?_)
        · replace h := if_t h hc
          refine lv_iinc (v := x2 + 1) (lv' := [(2, .int (x2 + 1)), (0, .ref (adr Γ (kW i0 + 5))), (1, .ref (adr Γ (kR i1)))]) hx hb dX3_findMembers_117 hl (k := 2) rfl rfl (by decide) rfl (fun ls hl => ?_)
          refine lv_goto (tgt := 7) hx hb dX3_findMembers_120 (by decide) ?_
          exact ih σ (x2 + 1) h _ _ _ hH (lv_sub hl [1, 2, 0] rfl)
        · replace h := if_f h hc
          refine lv_aload_n hx hb dX3_findMembers_39 rfl (lv_at hl 0 rfl) ?_
          refine r_get X.1 hH (lW _ hi0 5 (by decide)) (dW5 _ hi0) rfl inlX3 2 (by decide) (v := .ref (adr Γ (kW i0 + 7))) rfl mw_116 dX3_findMembers_40 ?_
          refine lv_aload_n hx hb dX3_findMembers_43 rfl (lv_at hl 0 rfl) ?_
          refine r_get X.1 hH (lW _ hi0 5 (by decide)) (dW5 _ hi0) rfl inlX3 3 (by decide) (v := .int (σ.1 20 i0 0)) rfl mw_445 dX3_findMembers_44 ?_
          refine lv_iload_n hx hb dX3_findMembers_47 rfl (lv_at hl 2 rfl) ?_
          obtain ⟨hg109, h⟩ := chk_some h
          obtain ⟨σ110, e111, h⟩ := st_some h
          refine r_ist X.1 hH (lW _ hi0 7 (by decide)) (dW7 _ hi0) hg109 dX3_findMembers_48 (fun H locs hH => ?_)
          replace hH : HW (IA Γ) Γ σ110 s.heap H locs := by rw [e111]; exact hH
          refine lv_aload_n hx hb dX3_findMembers_49 rfl (lv_at hl 0 rfl) ?_
          refine lv_dup hx hb dX3_findMembers_50 rfl ?_
          refine r_get X.1 hH (lW _ hi0 5 (by decide)) (dW5 _ hi0) rfl inlX3 3 (by decide) (v := .int (σ110.1 20 i0 0)) rfl mw_445 dX3_findMembers_51 ?_
          refine lv_iconst (v := 1) hx hb dX3_findMembers_54 (by decide) ?_
          refine lv_iadd hx hb dX3_findMembers_55 ?_
          obtain ⟨σ112, e113, h⟩ := st_some h
          refine r_putI X.1 hH (co := 20) (lW _ hi0 5 (by decide)) rfl (dW5 _ hi0) rfl inlX3 tyX3 tyX3_ok nmX3 (by decide) (Nat.le_of_ble_eq_true rfl) rfl (by decide +kernel) mw_445 dX3_findMembers_56 (fun H locs hH => ?_)
          replace hH : HW (IA Γ) Γ σ112 s.heap H locs := by rw [e113]; exact hH
          refine lv_aload_n hx hb dX3_findMembers_59 rfl (lv_at hl 1 rfl) ?_
          refine r_get X.1 hH (kR_lt hi1) (dR0 _ hi1) rfl inlX5 1 (by decide) (v := .ref (adr Γ (kT (i1 + 2)))) rfl mw_452 dX3_findMembers_60 ?_
          refine r_get X.1 hH (kT_lt (by omega)) (dT0 _ (by omega)) rfl inlX8 0 (by decide) (v := .ref (adr Γ (kT (i1 + 2) + 1))) rfl mw_453 dX3_findMembers_63 ?_
          refine lv_iload_n hx hb dX3_findMembers_66 rfl (lv_at hl 2 rfl) ?_
          obtain ⟨hg114, h⟩ := chk_some h
          refine r_ild X.1 hH (lT1 _ (by omega)) (dT1 _ (by omega)) hg114 dX3_findMembers_67 ?_
          refine lv_istore_n (lv' := [(3, .int (σ112.1 26 (i1 + 2) x2.toNatClampNeg)), (0, .ref (adr Γ (kW i0 + 5))), (1, .ref (adr Γ (kR i1))), (2, .int x2)]) hx hb dX3_findMembers_68 rfl hl (by decide) rfl (fun ls hl => ?_)
          refine lv_aload_n hx hb dX3_findMembers_69 rfl (lv_at hl 2 rfl) ?_
          refine r_get X.1 hH (kR_lt hi1) (dR0 _ hi1) rfl inlX5 5 (by decide) (v := .ref (adr Γ (kR i1 + 4))) rfl mw_454 dX3_findMembers_70 ?_
          refine lv_iload_n hx hb dX3_findMembers_73 rfl (lv_at hl 3 rfl) ?_
          refine lv_iload_n hx hb dX3_findMembers_74 rfl (lv_at hl 0 rfl) ?_
          obtain ⟨r116, hq115, h⟩ := bnd_some h
          refine r_callSI X.1 hl hH (As := [.int (σ112.1 26 (i1 + 2) x2.toNatClampNeg)]) (rest := [.int x2, .ref (adr Γ (kR i1 + 4))]) (c_X1_isProcedure l X.1.2.2.2.2.2.2.1 σ112 (σ112.1 26 (i1 + 2) x2.toNatClampNeg) _ hq115) (cw_S X.1 1 mw_458 mw_456 mw_457 mw_196 rfl rfl (by decide +kernel) ⟨Nat.le_of_ble_eq_true rfl, Nat.le_of_ble_eq_true rfl⟩) rfl rfl (Nat.le_of_ble_eq_true rfl) dX3_findMembers_75 ⟨Nat.zero_le _, Nat.zero_le _⟩ (fun H locs hH => ?_)
          obtain ⟨hg118, h⟩ := chk_some h
          obtain ⟨hg119, h⟩ := chk_some h
          obtain ⟨σ120, e121, h⟩ := st_some h
          refine r_zst X.1 hH (lR _ hi1 4 (by decide)) (dR4 _ hi1) hg118 hg119 dX3_findMembers_78 (fun H locs hH => ?_)
          replace hH : HW (IA Γ) Γ σ120 s.heap H locs := by rw [e121]; exact hH
          refine lv_aload_n hx hb dX3_findMembers_79 rfl (lv_at hl 1 rfl) ?_
          refine r_get X.1 hH (lW _ hi0 5 (by decide)) (dW5 _ hi0) rfl inlX3 4 (by decide) (v := .ref (adr Γ (kW i0 + 8))) rfl mw_117 dX3_findMembers_80 ?_
          refine lv_iconst (v := 2) hx hb dX3_findMembers_83 (by decide) ?_
          refine lv_iload_n hx hb dX3_findMembers_84 rfl (lv_at hl 3 rfl) ?_
          refine lv_imul hx hb dX3_findMembers_85 ?_
          refine lv_aload_n hx hb dX3_findMembers_86 rfl (lv_at hl 1 rfl) ?_
          refine lv_iload_n hx hb dX3_findMembers_87 rfl (lv_at hl 3 rfl) ?_
          refine lv_iload_n hx hb dX3_findMembers_88 rfl (lv_at hl 0 rfl) ?_
          refine lv_iconst (v := 0) hx hb dX3_findMembers_89 (by decide) ?_
          obtain ⟨r123, hq122, h⟩ := bnd_some h
          refine r_callSI X.1 hl hH (As := [.int (σ112.1 26 (i1 + 2) x2.toNatClampNeg), .int 0]) (rest := [.int x2, .ref (adr Γ (kW i0 + 5)), .int ((2 : Int32) * x2), .ref (adr Γ (kW i0 + 8))]) (c_X1_reference l X.1.2.2.2.2.2.2.1 σ120 (σ112.1 26 (i1 + 2) x2.toNatClampNeg) 0 _ hq122) (cw_S X.1 2 mw_214 mw_459 mw_213 mw_196 rfl rfl (by decide +kernel) ⟨Nat.le_of_ble_eq_true rfl, Nat.le_of_ble_eq_true rfl⟩) rfl rfl (Nat.le_of_ble_eq_true rfl) dX3_findMembers_90 ⟨Nat.zero_le _, Nat.zero_le _⟩ (fun H locs hH => ?_)
          obtain ⟨r126, hq125, h⟩ := bnd_some h
          refine r_callVI X.1 hl hH (As := [.int x2, .int r123]) (rest := [.int ((2 : Int32) * x2), .ref (adr Γ (kW i0 + 8))]) (c_X3_targetOf l X.1.2.2.2.2.2.2.1 σ120 i0 hi0 x2 r123 _ hq125) (cw_V X.1 2 mw_463 mw_460 mw_461 mw_462 mw_77 rfl rfl (by decide +kernel) ⟨Nat.le_of_ble_eq_true rfl, Nat.le_of_ble_eq_true rfl⟩) (r_recv X.1 hH (lW _ hi0 5 (by decide)) (dW5 _ hi0) rfl) rfl rfl (Nat.le_of_ble_eq_true rfl) dX3_findMembers_93 ⟨Nat.zero_le _, Nat.zero_le _⟩ (fun H locs hH => ?_)
          obtain ⟨hg128, h⟩ := chk_some h
          obtain ⟨σ129, e130, h⟩ := st_some h
          refine r_ist X.1 hH (lW _ hi0 8 (by decide)) (dW8 _ hi0) hg128 dX3_findMembers_96 (fun H locs hH => ?_)
          replace hH : HW (IA Γ) Γ σ129 s.heap H locs := by rw [e130]; exact hH
          refine lv_aload_n hx hb dX3_findMembers_97 rfl (lv_at hl 1 rfl) ?_
          refine r_get X.1 hH (lW _ hi0 5 (by decide)) (dW5 _ hi0) rfl inlX3 4 (by decide) (v := .ref (adr Γ (kW i0 + 8))) rfl mw_117 dX3_findMembers_98 ?_
          refine lv_iconst (v := 2) hx hb dX3_findMembers_101 (by decide) ?_
          refine lv_iload_n hx hb dX3_findMembers_102 rfl (lv_at hl 3 rfl) ?_
          refine lv_imul hx hb dX3_findMembers_103 ?_
          refine lv_iconst (v := 1) hx hb dX3_findMembers_104 (by decide) ?_
          refine lv_iadd hx hb dX3_findMembers_105 ?_
          refine lv_aload_n hx hb dX3_findMembers_106 rfl (lv_at hl 1 rfl) ?_
          refine lv_iload_n hx hb dX3_findMembers_107 rfl (lv_at hl 3 rfl) ?_
          refine lv_iload_n hx hb dX3_findMembers_108 rfl (lv_at hl 0 rfl) ?_
          refine lv_iconst (v := 1) hx hb dX3_findMembers_109 (by decide) ?_
          obtain ⟨r132, hq131, h⟩ := bnd_some h
          refine r_callSI X.1 hl hH (As := [.int (σ112.1 26 (i1 + 2) x2.toNatClampNeg), .int 1]) (rest := [.int x2, .ref (adr Γ (kW i0 + 5)), .int (((2 : Int32) * x2) + (1 : Int32)), .ref (adr Γ (kW i0 + 8))]) (c_X1_reference l X.1.2.2.2.2.2.2.1 σ129 (σ112.1 26 (i1 + 2) x2.toNatClampNeg) 1 _ hq131) (cw_S X.1 2 mw_214 mw_459 mw_213 mw_196 rfl rfl (by decide +kernel) ⟨Nat.le_of_ble_eq_true rfl, Nat.le_of_ble_eq_true rfl⟩) rfl rfl (Nat.le_of_ble_eq_true rfl) dX3_findMembers_110 ⟨Nat.zero_le _, Nat.zero_le _⟩ (fun H locs hH => ?_)
          obtain ⟨r135, hq134, h⟩ := bnd_some h
          refine r_callVI X.1 hl hH (As := [.int x2, .int r132]) (rest := [.int (((2 : Int32) * x2) + (1 : Int32)), .ref (adr Γ (kW i0 + 8))]) (c_X3_targetOf l X.1.2.2.2.2.2.2.1 σ129 i0 hi0 x2 r132 _ hq134) (cw_V X.1 2 mw_463 mw_460 mw_461 mw_462 mw_77 rfl rfl (by decide +kernel) ⟨Nat.le_of_ble_eq_true rfl, Nat.le_of_ble_eq_true rfl⟩) (r_recv X.1 hH (lW _ hi0 5 (by decide)) (dW5 _ hi0) rfl) rfl rfl (Nat.le_of_ble_eq_true rfl) dX3_findMembers_113 ⟨Nat.zero_le _, Nat.zero_le _⟩ (fun H locs hH => ?_)
          obtain ⟨hg137, h⟩ := chk_some h
          obtain ⟨σ138, e139, h⟩ := st_some h
          refine r_ist X.1 hH (lW _ hi0 8 (by decide)) (dW8 _ hi0) hg137 dX3_findMembers_116 (fun H locs hH => ?_)
          replace hH : HW (IA Γ) Γ σ138 s.heap H locs := by rw [e139]; exact hH
          refine lv_iinc (v := x2 + 1) (lv' := [(2, .int (x2 + 1)), (3, .int (σ112.1 26 (i1 + 2) x2.toNatClampNeg)), (0, .ref (adr Γ (kW i0 + 5))), (1, .ref (adr Γ (kR i1)))]) hx hb dX3_findMembers_117 hl (k := 3) rfl rfl (by decide) rfl (fun ls hl => ?_)
          refine lv_goto (tgt := 7) hx hb dX3_findMembers_120 (by decide) ?_
          exact ih σ138 (x2 + 1) h _ _ _ hH (lv_sub hl [2, 3, 0] rfl)
/-- CutoffMill$Maker.findMembers(LCutoffMill$Result;)V -/
def m_X3_findMembers (σ : Sg) (i0 : Nat) (i1 : Nat) : Option Sg := st (wI σ 20 i0 0 0) (fun σ101 => m_X3_findMembers_7 i0 i1 1000 σ101 0)
set_option maxHeartbeats 4000000 in
set_option maxRecDepth 100000 in
theorem c_X3_findMembers (l : Launch) {Γ : GG} (hJ : IJ Γ) (σ : Sg) (i0 : Nat) (hi0 : i0 < 2) (i1 : Nat) (hi1 : i1 < 30) (σf : Sg) (rf : Unit) (h : m_X3_findMembers σ i0 i1 = some σf) : CV l yX3_findMembers (wy yX3_findMembers cX3_findMembers 4 none) { frames := 1, cells := 0, slots := 0, locals := 22 } Γ σ [.ref (adr Γ (kW i0 + 5)), .ref (adr Γ (kR i1))] σf rf := by
  refine met_of (by decide +kernel) hJ (Nat.le_of_ble_eq_true rfl) (fun p e s m below meth c ls X hH hl => ?_)
  have hl : lv_has ls 4 [(0, .ref (adr Γ (kW i0 + 5))), (1, .ref (adr Γ (kR i1)))] := hl
  have hx := X.1.1
  have hb := X.1.2.1
  rw [m_X3_findMembers] at h
  refine lv_aload_n hx hb dX3_findMembers_0 rfl (lv_at hl 0 rfl) ?_
  refine lv_iconst (v := 0) hx hb dX3_findMembers_1 (by decide) ?_
  obtain ⟨σ101, e102, h⟩ := st_some h
  refine r_putI X.1 hH (co := 20) (lW _ hi0 5 (by decide)) rfl (dW5 _ hi0) rfl inlX3 tyX3 tyX3_ok nmX3 (by decide) (Nat.le_of_ble_eq_true rfl) rfl (by decide +kernel) mw_445 dX3_findMembers_2 (fun H locs hH => ?_)
  replace hH : HW (IA Γ) Γ σ101 s.heap H locs := by rw [e102]; exact hH
  refine lv_iconst (v := 0) hx hb dX3_findMembers_5 (by decide) ?_
  refine lv_istore_n (lv' := [(2, .int 0), (0, .ref (adr Γ (kW i0 + 5))), (1, .ref (adr Γ (kR i1)))]) hx hb dX3_findMembers_6 rfl hl (by decide) rfl (fun ls hl => ?_)
  exact b_X3_findMembers_7 (rf := ()) X i0 hi0 i1 hi1  1000 σ101 0 h _ _ _ hH (lv_sub hl [1, 2, 0] rfl)
def m_X10_clear_2 (ca0 oa0 : Nat)  : Nat → Sg → Int32 → Option Sg
  | 0, _, _ => none
  | n + 1, σ, x1 => if 128 ≤ x1 then some σ else chk (inb x1 128) (st (wI σ ca0 oa0 x1.toNatClampNeg 0) (fun σ102 => m_X10_clear_2 ca0 oa0 n σ102 (x1 + 1)))
set_option maxHeartbeats 4000000 in
set_option maxRecDepth 100000 in
theorem b_X10_clear_2 {p : Program} {l : Launch} {e : Env} {s : State} {m : MethodId} {args : Array Value} {below : List Frame} {meth : Method} {c : Code} {Γ : GG} (X : MB Γ p s m args meth c cX10_clear 2 RX10 none) {σf : Sg} {rf : Unit} (ca0 oa0 ka0 : Nat) (hka0 : ka0 < 440) (hda0 : desc ka0 = (2, ca0, oa0, 128)) : ∀ (n : Nat), (∀ (σ : Sg) (x1 : Int32), (m_X10_clear_2 ca0 oa0 n) σ x1 = some σf → ∀ (H : Heap) (locs : List Loc) (ls : Array Slot), HW (IA Γ) Γ σ s.heap H locs → lv_has ls 2 [(0, .ref (adr Γ ka0)), (1, .int x1)] → W p l e ({ frames := 0, cells := 0, slots := 0, locals := 0 } : Room) s m args below meth c H locs 0 0 (QV Γ σf rf below args s) (F0 m 2 ls [])) := by
  have hx := X.1.1
  have hb := X.1.2.1
  intro n
  induction n with
  | zero => intro σ x1 h; rw [m_X10_clear_2] at h; cases h
  | succ n ih =>
    intro σ x1 h H locs ls hH hl
    rw [m_X10_clear_2] at h
    refine lv_iload_n hx hb dX10_clear_2 rfl (lv_at hl 1 rfl) ?_
    refine lv_aload_n hx hb dX10_clear_3 rfl (lv_at hl 0 rfl) ?_
    refine r_len X.1 hH (v := 128) hka0 hda0 (by decide) rfl dX10_clear_4 ?_
    refine lv_icmp_ge (tgt := 18) hx hb dX10_clear_5 (by decide) (fun hc => ?_) (fun hc => ?_)
    · replace h := if_t h hc
      cases h
      exact e_void (v := rf) X hH dX10_clear_18
    · replace h := if_f h hc
      refine lv_aload_n hx hb dX10_clear_8 rfl (lv_at hl 0 rfl) ?_
      refine lv_iload_n hx hb dX10_clear_9 rfl (lv_at hl 1 rfl) ?_
      refine lv_iconst (v := 0) hx hb dX10_clear_10 (by decide) ?_
      obtain ⟨hg101, h⟩ := chk_some h
      obtain ⟨σ102, e103, h⟩ := st_some h
      refine r_zst X.1 hH hka0 hda0 hg101 rfl dX10_clear_11 (fun H locs hH => ?_)
      replace hH : HW (IA Γ) Γ σ102 s.heap H locs := by rw [e103]; exact hH
      refine lv_iinc (v := x1 + 1) (lv' := [(1, .int (x1 + 1)), (0, .ref (adr Γ ka0))]) hx hb dX10_clear_12 hl (k := 1) rfl rfl (by decide) rfl (fun ls hl => ?_)
      refine lv_goto (tgt := 2) hx hb dX10_clear_15 (by decide) ?_
      exact ih σ102 (x1 + 1) h _ _ _ hH (lv_sub hl [1, 0] rfl)
/-- CutoffMill.clear([Z)V -/
def m_X10_clear (σ : Sg) (ca0 oa0 : Nat) : Option Sg := m_X10_clear_2 ca0 oa0 1000 σ 0
set_option maxHeartbeats 4000000 in
set_option maxRecDepth 100000 in
theorem c_X10_clear (l : Launch) {Γ : GG} (hJ : IJ Γ) (σ : Sg) (ca0 oa0 ka0 : Nat) (hka0 : ka0 < 440) (hda0 : desc ka0 = (2, ca0, oa0, 128)) (σf : Sg) (rf : Unit) (h : m_X10_clear σ ca0 oa0 = some σf) : CV l yX10_clear (wy yX10_clear cX10_clear 2 none) { frames := 0, cells := 0, slots := 0, locals := 0 } Γ σ [.ref (adr Γ ka0)] σf rf := by
  refine met_of (by decide +kernel) hJ (Nat.le_of_ble_eq_true rfl) (fun p e s m below meth c ls X hH hl => ?_)
  have hl : lv_has ls 2 [(0, .ref (adr Γ ka0))] := hl
  have hx := X.1.1
  have hb := X.1.2.1
  rw [m_X10_clear] at h
  refine lv_iconst (v := 0) hx hb dX10_clear_0 (by decide) ?_
  refine lv_istore_n (lv' := [(1, .int 0), (0, .ref (adr Γ ka0))]) hx hb dX10_clear_1 rfl hl (by decide) rfl (fun ls hl => ?_)
  exact b_X10_clear_2 (rf := ()) X ca0 oa0 ka0 hka0 hda0  1000 σ 0 h _ _ _ hH (lv_sub hl [1, 0] rfl)
/-- CutoffMill$Maker.directFault(IZ)I -/
def m_X3_directFault (σ : Sg) (i0 : Nat) (x1 : Int32) (x2 : Int32) : Option Int32 := if x1 = ((-1)) then some 1 else if x1 = ((-2)) then some 2 else if x2 = 0 then some 0 else if x1 < 0 then some 0 else chk (inb (x1 / (16 : Int32)) (lenP 2 i0)) (bnd (σ.2.2 2 i0 (x1 / (16 : Int32)).toNatClampNeg) (fun r102 => chk (decide (r102 < 30)) (chk (inb x1 128) (if (σ.1 32 r102 x1.toNatClampNeg) = 0 then some 0 else some 3))))
set_option maxHeartbeats 4000000 in
set_option maxRecDepth 100000 in
theorem c_X3_directFault (l : Launch) {Γ : GG} (hJ : IJ Γ) (σ : Sg) (i0 : Nat) (hi0 : i0 < 2) (x1 : Int32) (x2 : Int32) (rf : Int32) (h : m_X3_directFault σ i0 x1 x2 = some rf) : CI l yX3_directFault (wy yX3_directFault cX3_directFault 3 (some .int)) { frames := 0, cells := 0, slots := 0, locals := 0 } Γ σ [.ref (adr Γ (kW i0 + 5)), .int x1, .int x2] σ rf := by
  refine met_of (by decide +kernel) hJ (Nat.le_of_ble_eq_true rfl) (fun p e s m below meth c ls X hH hl => ?_)
  have hl : lv_has ls 3 [(0, .ref (adr Γ (kW i0 + 5))), (1, .int x1), (2, .int x2)] := hl
  have hx := X.1.1
  have hb := X.1.2.1
  rw [m_X3_directFault] at h
  refine lv_iload_n hx hb dX3_directFault_0 rfl (lv_at hl 1 rfl) ?_
  refine lv_iconst (v := (-1)) hx hb dX3_directFault_1 (by decide) ?_
  refine lv_icmp_ne (tgt := 7) hx hb dX3_directFault_2 (by decide) (fun hc => ?_) (fun hc => ?_)
  · replace h := if_f h hc
    refine lv_iload_n hx hb dX3_directFault_7 rfl (lv_at hl 1 rfl) ?_
    refine lv_bipush (v := (-2)) hx hb dX3_directFault_8 (by decide) ?_
    refine lv_icmp_ne (tgt := 15) hx hb dX3_directFault_10 (by decide) (fun hc => ?_) (fun hc => ?_)
    · replace h := if_f h hc
      refine lv_iload_n hx hb dX3_directFault_15 rfl (lv_at hl 2 rfl) ?_
      refine lv_if_eq (tgt := 44) hx hb dX3_directFault_16 (by decide) (fun hc => ?_) (fun hc => ?_)
      · replace h := if_t h hc
        refine lv_iconst (v := 0) hx hb dX3_directFault_44 (by decide) ?_
        cases h
        exact e_int X hH rfl dX3_directFault_45
      · replace h := if_f h hc
        refine lv_iload_n hx hb dX3_directFault_19 rfl (lv_at hl 1 rfl) ?_
        refine lv_if_lt (tgt := 44) hx hb dX3_directFault_20 (by decide) (fun hc => ?_) (fun hc => ?_)
        · replace h := if_t h hc
          refine lv_iconst (v := 0) hx hb dX3_directFault_44 (by decide) ?_
          cases h
          exact e_int X hH rfl dX3_directFault_45
        · replace h := if_f h hc
          refine lv_aload_n hx hb dX3_directFault_23 rfl (lv_at hl 0 rfl) ?_
          refine r_get X.1 hH (lW _ hi0 5 (by decide)) (dW5 _ hi0) rfl inlX3 1 (by decide) (v := .ref (adr Γ (kW i0 + 6))) rfl mw_115 dX3_directFault_24 ?_
          refine lv_iload_n hx hb dX3_directFault_27 rfl (lv_at hl 1 rfl) ?_
          refine lv_bipush (v := 16) hx hb dX3_directFault_28 (by decide) ?_
          refine lv_idiv hx hb dX3_directFault_30 (by decide) ?_
          obtain ⟨hg101, h⟩ := chk_some h
          obtain ⟨r102, he103, h⟩ := bnd_some h
          obtain ⟨hr102, h⟩ := chk_some h
          replace hr102 := of_decide_eq_true hr102
          refine r_ald X.1 hH (lW _ hi0 6 (by decide)) (dW6 _ hi0) hg101 he103 dX3_directFault_31 ?_
          refine r_get X.1 hH (kR_lt hr102) (dR0 _ hr102) rfl inlX5 5 (by decide) (v := .ref (adr Γ (kR r102 + 4))) rfl mw_454 dX3_directFault_32 ?_
          refine lv_iload_n hx hb dX3_directFault_35 rfl (lv_at hl 1 rfl) ?_
          obtain ⟨hg104, h⟩ := chk_some h
          refine r_zld X.1 hH (lR _ hr102 4 (by decide)) (dR4 _ hr102) hg104 dX3_directFault_36 ?_
          refine lv_if_eq (tgt := 44) hx hb dX3_directFault_37 (by decide) (fun hc => ?_) (fun hc => ?_)
          · replace h := if_t h hc
            refine lv_iconst (v := 0) hx hb dX3_directFault_44 (by decide) ?_
            cases h
            exact e_int X hH rfl dX3_directFault_45
          · replace h := if_f h hc
            refine lv_iconst (v := 3) hx hb dX3_directFault_40 (by decide) ?_
            refine lv_goto (tgt := 45) hx hb dX3_directFault_41 (by decide) ?_
            cases h
            exact e_int X hH rfl dX3_directFault_45
    · replace h := if_t h hc
      refine lv_iconst (v := 2) hx hb dX3_directFault_13 (by decide) ?_
      cases h
      exact e_int X hH rfl dX3_directFault_14
  · replace h := if_t h hc
    refine lv_iconst (v := 1) hx hb dX3_directFault_5 (by decide) ?_
    cases h
    exact e_int X hH rfl dX3_directFault_6
def m_X3_findDirectFaults_82 (i0 : Nat) (i1 : Nat) (k9 : Sg → Int32 → Option Sg) (σ : Sg) (s0 : Int32) (x2 : Int32) (x3 : Int32) (x4 : Int32) : Option Sg := chk (inb x3 128) (st (wI σ 31 i1 x3.toNatClampNeg s0) (fun σ115 => if x4 = 0 then chk (inb x3 128) (st (wI σ115 23 i0 x3.toNatClampNeg 0) (fun σ118 => k9 σ118 (x2 + 1))) else if s0 = 0 then chk (inb x3 128) (st (wI σ115 23 i0 x3.toNatClampNeg 1) (fun σ124 => k9 σ124 (x2 + 1))) else chk (inb x3 128) (st (wI σ115 23 i0 x3.toNatClampNeg 0) (fun σ121 => k9 σ121 (x2 + 1)))))
set_option maxHeartbeats 4000000 in
set_option maxRecDepth 100000 in
theorem b_X3_findDirectFaults_82 {p : Program} {l : Launch} {e : Env} {s : State} {m : MethodId} {args : Array Value} {below : List Frame} {meth : Method} {c : Code} {Γ : GG} (X : MB Γ p s m args meth c cX3_findDirectFaults 7 RX3 none) {σf : Sg} {rf : Unit} (i0 : Nat) (hi0 : i0 < 2) (i1 : Nat) (hi1 : i1 < 30) (k9 : Sg → Int32 → Option Sg) (hk9 : (∀ (σ : Sg) (x2 : Int32), k9 σ x2 = some σf → ∀ (H : Heap) (locs : List Loc) (ls : Array Slot), HW (IA Γ) Γ σ s.heap H locs → lv_has ls 7 [(0, .ref (adr Γ (kW i0 + 5))), (1, .ref (adr Γ (kR i1))), (2, .int x2)] → W p l e ({ frames := 1, cells := 0, slots := 0, locals := 22 } : Room) s m args below meth c H locs 0 0 (QV Γ σf rf below args s) (F0 m 9 ls []))) : (∀ (σ : Sg) (s0 : Int32) (x2 : Int32) (x3 : Int32) (x4 : Int32), (m_X3_findDirectFaults_82 i0 i1 k9) σ s0 x2 x3 x4 = some σf → ∀ (H : Heap) (locs : List Loc) (ls : Array Slot), HW (IA Γ) Γ σ s.heap H locs → lv_has ls 7 [(0, .ref (adr Γ (kW i0 + 5))), (1, .ref (adr Γ (kR i1))), (2, .int x2), (3, .int x3), (4, .int x4)] → W p l e ({ frames := 1, cells := 0, slots := 0, locals := 22 } : Room) s m args below meth c H locs 0 0 (QV Γ σf rf below args s) (F0 m 82 ls [.int s0])) := by
  have hx := X.1.1
  have hb := X.1.2.1
  intro σ s0 x2 x3 x4 h H locs ls hH hl
  rw [m_X3_findDirectFaults_82] at h
  refine lv_istore (lv' := [(6, .int s0), (0, .ref (adr Γ (kW i0 + 5))), (1, .ref (adr Γ (kR i1))), (2, .int x2), (3, .int x3), (4, .int x4)]) hx hb dX3_findDirectFaults_82 hl (by decide) rfl (fun ls hl => ?_)
  refine lv_aload_n hx hb dX3_findDirectFaults_84 rfl (lv_at hl 2 rfl) ?_
  refine r_get X.1 hH (kR_lt hi1) (dR0 _ hi1) rfl inlX5 4 (by decide) (v := .ref (adr Γ (kR i1 + 3))) rfl mw_446 dX3_findDirectFaults_85 ?_
  refine lv_iload_n hx hb dX3_findDirectFaults_88 rfl (lv_at hl 4 rfl) ?_
  refine lv_iload hx hb dX3_findDirectFaults_89 (lv_at hl 0 rfl) ?_
  obtain ⟨hg114, h⟩ := chk_some h
  obtain ⟨σ115, e116, h⟩ := st_some h
  refine r_ist X.1 hH (lR _ hi1 3 (by decide)) (dR3 _ hi1) hg114 dX3_findDirectFaults_91 (fun H locs hH => ?_)
  replace hH : HW (IA Γ) Γ σ115 s.heap H locs := by rw [e116]; exact hH
  refine lv_aload_n hx hb dX3_findDirectFaults_92 rfl (lv_at hl 1 rfl) ?_
  refine r_get X.1 hH (lW _ hi0 5 (by decide)) (dW5 _ hi0) rfl inlX3 5 (by decide) (v := .ref (adr Γ (kW i0 + 9))) rfl mw_118 dX3_findDirectFaults_93 ?_
  refine lv_iload_n hx hb dX3_findDirectFaults_96 rfl (lv_at hl 4 rfl) ?_
  refine lv_iload hx hb dX3_findDirectFaults_97 (lv_at hl 5 rfl) ?_
  refine lv_if_eq (tgt := 111) hx hb dX3_findDirectFaults_99 (by decide) (fun hc => ?_) (fun hc => ?_)
  · replace h := if_t h hc
    refine lv_iconst (v := 0) hx hb dX3_findDirectFaults_111 (by decide) ?_
    obtain ⟨hg117, h⟩ := chk_some h
    obtain ⟨σ118, e119, h⟩ := st_some h
    refine r_zst X.1 hH (lW _ hi0 9 (by decide)) (dW9 _ hi0) hg117 rfl dX3_findDirectFaults_112 (fun H locs hH => ?_)
    replace hH : HW (IA Γ) Γ σ118 s.heap H locs := by rw [e119]; exact hH
    refine lv_iinc (v := x2 + 1) (lv' := [(2, .int (x2 + 1)), (6, .int s0), (0, .ref (adr Γ (kW i0 + 5))), (1, .ref (adr Γ (kR i1))), (3, .int x3), (4, .int x4)]) hx hb dX3_findDirectFaults_113 hl (k := 3) rfl rfl (by decide) rfl (fun ls hl => ?_)
    refine lv_goto (tgt := 9) hx hb dX3_findDirectFaults_116 (by decide) ?_
    exact hk9 σ118 (x2 + 1) h _ _ _ hH (lv_sub hl [2, 3, 0] rfl)
  · replace h := if_f h hc
    refine lv_iload hx hb dX3_findDirectFaults_102 (lv_at hl 0 rfl) ?_
    refine lv_if_ne (tgt := 111) hx hb dX3_findDirectFaults_104 (by decide) (fun hc => ?_) (fun hc => ?_)
    · replace h := if_f h hc
      refine lv_iconst (v := 0) hx hb dX3_findDirectFaults_111 (by decide) ?_
      obtain ⟨hg120, h⟩ := chk_some h
      obtain ⟨σ121, e122, h⟩ := st_some h
      refine r_zst X.1 hH (lW _ hi0 9 (by decide)) (dW9 _ hi0) hg120 rfl dX3_findDirectFaults_112 (fun H locs hH => ?_)
      replace hH : HW (IA Γ) Γ σ121 s.heap H locs := by rw [e122]; exact hH
      refine lv_iinc (v := x2 + 1) (lv' := [(2, .int (x2 + 1)), (6, .int s0), (0, .ref (adr Γ (kW i0 + 5))), (1, .ref (adr Γ (kR i1))), (3, .int x3), (4, .int x4)]) hx hb dX3_findDirectFaults_113 hl (k := 3) rfl rfl (by decide) rfl (fun ls hl => ?_)
      refine lv_goto (tgt := 9) hx hb dX3_findDirectFaults_116 (by decide) ?_
      exact hk9 σ121 (x2 + 1) h _ _ _ hH (lv_sub hl [2, 3, 0] rfl)
    · replace h := if_t h hc
      refine lv_iconst (v := 1) hx hb dX3_findDirectFaults_107 (by decide) ?_
      refine lv_goto (tgt := 112) hx hb dX3_findDirectFaults_108 (by decide) ?_
      obtain ⟨hg123, h⟩ := chk_some h
      obtain ⟨σ124, e125, h⟩ := st_some h
      refine r_zst X.1 hH (lW _ hi0 9 (by decide)) (dW9 _ hi0) hg123 rfl dX3_findDirectFaults_112 (fun H locs hH => ?_)
      replace hH : HW (IA Γ) Γ σ124 s.heap H locs := by rw [e125]; exact hH
      refine lv_iinc (v := x2 + 1) (lv' := [(2, .int (x2 + 1)), (6, .int s0), (0, .ref (adr Γ (kW i0 + 5))), (1, .ref (adr Γ (kR i1))), (3, .int x3), (4, .int x4)]) hx hb dX3_findDirectFaults_113 hl (k := 3) rfl rfl (by decide) rfl (fun ls hl => ?_)
      refine lv_goto (tgt := 9) hx hb dX3_findDirectFaults_116 (by decide) ?_
      exact hk9 σ124 (x2 + 1) h _ _ _ hH (lv_sub hl [2, 3, 0] rfl)
def m_X3_findDirectFaults_38 (i0 : Nat) (i1 : Nat) (k9 : Sg → Int32 → Option Sg) (σ : Sg) (s0 : Int32) (x2 : Int32) (x3 : Int32) : Option Sg := chk (inb ((2 : Int32) * x3) 256) (bnd (m_X3_directFault σ i0 (σ.1 22 i0 ((2 : Int32) * x3).toNatClampNeg) s0) (fun r108 => if r108 = 0 then chk (inb (((2 : Int32) * x3) + (1 : Int32)) 256) (bnd (m_X3_directFault σ i0 (σ.1 22 i0 (((2 : Int32) * x3) + (1 : Int32)).toNatClampNeg) s0) (fun r112 => m_X3_findDirectFaults_82 i0 i1 k9 σ r112 x2 x3 s0)) else m_X3_findDirectFaults_82 i0 i1 k9 σ r108 x2 x3 s0))
set_option maxHeartbeats 4000000 in
set_option maxRecDepth 100000 in
theorem b_X3_findDirectFaults_38 {p : Program} {l : Launch} {e : Env} {s : State} {m : MethodId} {args : Array Value} {below : List Frame} {meth : Method} {c : Code} {Γ : GG} (X : MB Γ p s m args meth c cX3_findDirectFaults 7 RX3 none) {σf : Sg} {rf : Unit} (i0 : Nat) (hi0 : i0 < 2) (i1 : Nat) (hi1 : i1 < 30) (k9 : Sg → Int32 → Option Sg) (hk9 : (∀ (σ : Sg) (x2 : Int32), k9 σ x2 = some σf → ∀ (H : Heap) (locs : List Loc) (ls : Array Slot), HW (IA Γ) Γ σ s.heap H locs → lv_has ls 7 [(0, .ref (adr Γ (kW i0 + 5))), (1, .ref (adr Γ (kR i1))), (2, .int x2)] → W p l e ({ frames := 1, cells := 0, slots := 0, locals := 22 } : Room) s m args below meth c H locs 0 0 (QV Γ σf rf below args s) (F0 m 9 ls []))) : (∀ (σ : Sg) (s0 : Int32) (x2 : Int32) (x3 : Int32), (m_X3_findDirectFaults_38 i0 i1 k9) σ s0 x2 x3 = some σf → ∀ (H : Heap) (locs : List Loc) (ls : Array Slot), HW (IA Γ) Γ σ s.heap H locs → lv_has ls 7 [(0, .ref (adr Γ (kW i0 + 5))), (1, .ref (adr Γ (kR i1))), (2, .int x2), (3, .int x3)] → W p l e ({ frames := 1, cells := 0, slots := 0, locals := 22 } : Room) s m args below meth c H locs 0 0 (QV Γ σf rf below args s) (F0 m 38 ls [.int s0])) := by
  have hx := X.1.1
  have hb := X.1.2.1
  intro σ s0 x2 x3 h H locs ls hH hl
  rw [m_X3_findDirectFaults_38] at h
  refine lv_istore (lv' := [(4, .int s0), (0, .ref (adr Γ (kW i0 + 5))), (1, .ref (adr Γ (kR i1))), (2, .int x2), (3, .int x3)]) hx hb dX3_findDirectFaults_38 hl (by decide) rfl (fun ls hl => ?_)
  refine lv_aload_n hx hb dX3_findDirectFaults_40 rfl (lv_at hl 1 rfl) ?_
  refine lv_aload_n hx hb dX3_findDirectFaults_41 rfl (lv_at hl 1 rfl) ?_
  refine r_get X.1 hH (lW _ hi0 5 (by decide)) (dW5 _ hi0) rfl inlX3 4 (by decide) (v := .ref (adr Γ (kW i0 + 8))) rfl mw_117 dX3_findDirectFaults_42 ?_
  refine lv_iconst (v := 2) hx hb dX3_findDirectFaults_45 (by decide) ?_
  refine lv_iload_n hx hb dX3_findDirectFaults_46 rfl (lv_at hl 4 rfl) ?_
  refine lv_imul hx hb dX3_findDirectFaults_47 ?_
  obtain ⟨hg106, h⟩ := chk_some h
  refine r_ild X.1 hH (lW _ hi0 8 (by decide)) (dW8 _ hi0) hg106 dX3_findDirectFaults_48 ?_
  refine lv_iload hx hb dX3_findDirectFaults_49 (lv_at hl 0 rfl) ?_
  obtain ⟨r108, hq107, h⟩ := bnd_some h
  refine r_callVI X.1 hl hH (As := [.int (σ.1 22 i0 ((2 : Int32) * x3).toNatClampNeg), .int s0]) (rest := []) (c_X3_directFault l X.1.2.2.2.2.2.2.1 σ i0 hi0 (σ.1 22 i0 ((2 : Int32) * x3).toNatClampNeg) s0 _ hq107) (cw_V X.1 2 mw_474 mw_471 mw_472 mw_473 mw_77 rfl rfl (by decide +kernel) ⟨Nat.le_of_ble_eq_true rfl, Nat.le_of_ble_eq_true rfl⟩) (r_recv X.1 hH (lW _ hi0 5 (by decide)) (dW5 _ hi0) rfl) rfl rfl (Nat.le_of_ble_eq_true rfl) dX3_findDirectFaults_51 ⟨Nat.zero_le _, Nat.zero_le _⟩ (fun H locs hH => ?_)
  refine lv_istore (lv' := [(5, .int r108), (4, .int s0), (0, .ref (adr Γ (kW i0 + 5))), (1, .ref (adr Γ (kR i1))), (2, .int x2), (3, .int x3)]) hx hb dX3_findDirectFaults_54 hl (by decide) rfl (fun ls hl => ?_)
  refine lv_iload hx hb dX3_findDirectFaults_56 (lv_at hl 0 rfl) ?_
  refine lv_if_eq (tgt := 66) hx hb dX3_findDirectFaults_58 (by decide) (fun hc => ?_) (fun hc => ?_)
  · replace h := if_t h hc
    refine lv_aload_n hx hb dX3_findDirectFaults_66 rfl (lv_at hl 2 rfl) ?_
    refine lv_aload_n hx hb dX3_findDirectFaults_67 rfl (lv_at hl 2 rfl) ?_
    refine r_get X.1 hH (lW _ hi0 5 (by decide)) (dW5 _ hi0) rfl inlX3 4 (by decide) (v := .ref (adr Γ (kW i0 + 8))) rfl mw_117 dX3_findDirectFaults_68 ?_
    refine lv_iconst (v := 2) hx hb dX3_findDirectFaults_71 (by decide) ?_
    refine lv_iload_n hx hb dX3_findDirectFaults_72 rfl (lv_at hl 5 rfl) ?_
    refine lv_imul hx hb dX3_findDirectFaults_73 ?_
    refine lv_iconst (v := 1) hx hb dX3_findDirectFaults_74 (by decide) ?_
    refine lv_iadd hx hb dX3_findDirectFaults_75 ?_
    obtain ⟨hg110, h⟩ := chk_some h
    refine r_ild X.1 hH (lW _ hi0 8 (by decide)) (dW8 _ hi0) hg110 dX3_findDirectFaults_76 ?_
    refine lv_iload hx hb dX3_findDirectFaults_77 (lv_at hl 1 rfl) ?_
    obtain ⟨r112, hq111, h⟩ := bnd_some h
    refine r_callVI X.1 hl hH (As := [.int (σ.1 22 i0 (((2 : Int32) * x3) + (1 : Int32)).toNatClampNeg), .int s0]) (rest := []) (c_X3_directFault l X.1.2.2.2.2.2.2.1 σ i0 hi0 (σ.1 22 i0 (((2 : Int32) * x3) + (1 : Int32)).toNatClampNeg) s0 _ hq111) (cw_V X.1 2 mw_474 mw_471 mw_472 mw_473 mw_77 rfl rfl (by decide +kernel) ⟨Nat.le_of_ble_eq_true rfl, Nat.le_of_ble_eq_true rfl⟩) (r_recv X.1 hH (lW _ hi0 5 (by decide)) (dW5 _ hi0) rfl) rfl rfl (Nat.le_of_ble_eq_true rfl) dX3_findDirectFaults_79 ⟨Nat.zero_le _, Nat.zero_le _⟩ (fun H locs hH => ?_)
    exact b_X3_findDirectFaults_82 (rf := ()) X i0 hi0 i1 hi1 k9 hk9 σ r112 x2 x3 s0 h _ _ _ hH (lv_sub hl [2, 3, 4, 5, 1] rfl)
  · replace h := if_f h hc
    refine lv_iload hx hb dX3_findDirectFaults_61 (lv_at hl 0 rfl) ?_
    refine lv_goto (tgt := 82) hx hb dX3_findDirectFaults_63 (by decide) ?_
    exact b_X3_findDirectFaults_82 (rf := ()) X i0 hi0 i1 hi1 k9 hk9 σ r108 x2 x3 s0 h _ _ _ hH (lv_sub hl [2, 3, 4, 5, 1] rfl)
def m_X3_findDirectFaults_9 (i0 : Nat) (i1 : Nat)  : Nat → Sg → Int32 → Option Sg
  | 0, _, _ => none
  | n + 1, σ, x2 => if (σ.1 20 i0 0) ≤ x2 then some σ else chk (inb x2 128) (chk (inb (σ.1 21 i0 x2.toNatClampNeg) 128) (if (σ.1 32 i1 (σ.1 21 i0 x2.toNatClampNeg).toNatClampNeg) = 0 then m_X3_findDirectFaults_38 i0 i1 (m_X3_findDirectFaults_9 i0 i1 n) σ 1 x2 (σ.1 21 i0 x2.toNatClampNeg) else m_X3_findDirectFaults_38 i0 i1 (m_X3_findDirectFaults_9 i0 i1 n) σ 0 x2 (σ.1 21 i0 x2.toNatClampNeg)))
set_option maxHeartbeats 4000000 in
set_option maxRecDepth 100000 in
theorem b_X3_findDirectFaults_9 {p : Program} {l : Launch} {e : Env} {s : State} {m : MethodId} {args : Array Value} {below : List Frame} {meth : Method} {c : Code} {Γ : GG} (X : MB Γ p s m args meth c cX3_findDirectFaults 7 RX3 none) {σf : Sg} {rf : Unit} (i0 : Nat) (hi0 : i0 < 2) (i1 : Nat) (hi1 : i1 < 30) : ∀ (n : Nat), (∀ (σ : Sg) (x2 : Int32), (m_X3_findDirectFaults_9 i0 i1 n) σ x2 = some σf → ∀ (H : Heap) (locs : List Loc) (ls : Array Slot), HW (IA Γ) Γ σ s.heap H locs → lv_has ls 7 [(0, .ref (adr Γ (kW i0 + 5))), (1, .ref (adr Γ (kR i1))), (2, .int x2)] → W p l e ({ frames := 1, cells := 0, slots := 0, locals := 22 } : Room) s m args below meth c H locs 0 0 (QV Γ σf rf below args s) (F0 m 9 ls [])) := by
  have hx := X.1.1
  have hb := X.1.2.1
  intro n
  induction n with
  | zero => intro σ x2 h; rw [m_X3_findDirectFaults_9] at h; cases h
  | succ n ih =>
    intro σ x2 h H locs ls hH hl
    rw [m_X3_findDirectFaults_9] at h
    refine lv_iload_n hx hb dX3_findDirectFaults_9 rfl (lv_at hl 2 rfl) ?_
    refine lv_aload_n hx hb dX3_findDirectFaults_10 rfl (lv_at hl 0 rfl) ?_
    refine r_get X.1 hH (lW _ hi0 5 (by decide)) (dW5 _ hi0) rfl inlX3 3 (by decide) (v := .int (σ.1 20 i0 0)) rfl mw_445 dX3_findDirectFaults_11 ?_
    refine lv_icmp_ge (tgt := 119) hx hb dX3_findDirectFaults_14 (by decide) (fun hc => ?_) (fun hc => ?_)
    · replace h := if_t h hc
      cases h
      exact e_void (v := rf) X hH dX3_findDirectFaults_119
    · replace h := if_f h hc
      refine lv_aload_n hx hb dX3_findDirectFaults_17 rfl (lv_at hl 0 rfl) ?_
      refine r_get X.1 hH (lW _ hi0 5 (by decide)) (dW5 _ hi0) rfl inlX3 2 (by decide) (v := .ref (adr Γ (kW i0 + 7))) rfl mw_116 dX3_findDirectFaults_18 ?_
      refine lv_iload_n hx hb dX3_findDirectFaults_21 rfl (lv_at hl 2 rfl) ?_
      obtain ⟨hg104, h⟩ := chk_some h
      refine r_ild X.1 hH (lW _ hi0 7 (by decide)) (dW7 _ hi0) hg104 dX3_findDirectFaults_22 ?_
      refine lv_istore_n (lv' := [(3, .int (σ.1 21 i0 x2.toNatClampNeg)), (0, .ref (adr Γ (kW i0 + 5))), (1, .ref (adr Γ (kR i1))), (2, .int x2)]) hx hb dX3_findDirectFaults_23 rfl hl (by decide) rfl (fun ls hl => ?_)
      refine lv_aload_n hx hb dX3_findDirectFaults_24 rfl (lv_at hl 2 rfl) ?_
      refine r_get X.1 hH (kR_lt hi1) (dR0 _ hi1) rfl inlX5 5 (by decide) (v := .ref (adr Γ (kR i1 + 4))) rfl mw_454 dX3_findDirectFaults_25 ?_
      refine lv_iload_n hx hb dX3_findDirectFaults_28 rfl (lv_at hl 0 rfl) ?_
      obtain ⟨hg105, h⟩ := chk_some h
      refine r_zld X.1 hH (lR _ hi1 4 (by decide)) (dR4 _ hi1) hg105 dX3_findDirectFaults_29 ?_
      refine lv_if_ne (tgt := 37) hx hb dX3_findDirectFaults_30 (by decide) (fun hc => ?_) (fun hc => ?_)
      · replace h := if_f h hc
        refine lv_iconst (v := 0) hx hb dX3_findDirectFaults_37 (by decide) ?_
        exact b_X3_findDirectFaults_38 (rf := ()) X i0 hi0 i1 hi1 (m_X3_findDirectFaults_9 i0 i1 n) ih σ 0 x2 (σ.1 21 i0 x2.toNatClampNeg) h _ _ _ hH (lv_sub hl [1, 2, 3, 0] rfl)
      · replace h := if_t h hc
        refine lv_iconst (v := 1) hx hb dX3_findDirectFaults_33 (by decide) ?_
        refine lv_goto (tgt := 38) hx hb dX3_findDirectFaults_34 (by decide) ?_
        exact b_X3_findDirectFaults_38 (rf := ()) X i0 hi0 i1 hi1 (m_X3_findDirectFaults_9 i0 i1 n) ih σ 1 x2 (σ.1 21 i0 x2.toNatClampNeg) h _ _ _ hH (lv_sub hl [1, 2, 3, 0] rfl)
/-- CutoffMill$Maker.findDirectFaults(LCutoffMill$Result;)V -/
def m_X3_findDirectFaults (σ : Sg) (i0 : Nat) (i1 : Nat) : Option Sg := bnd (m_X10_clear σ 23 i0) (fun σ103 => m_X3_findDirectFaults_9 i0 i1 1000 σ103 0)
set_option maxHeartbeats 4000000 in
set_option maxRecDepth 100000 in
theorem c_X3_findDirectFaults (l : Launch) {Γ : GG} (hJ : IJ Γ) (σ : Sg) (i0 : Nat) (hi0 : i0 < 2) (i1 : Nat) (hi1 : i1 < 30) (σf : Sg) (rf : Unit) (h : m_X3_findDirectFaults σ i0 i1 = some σf) : CV l yX3_findDirectFaults (wy yX3_findDirectFaults cX3_findDirectFaults 7 none) { frames := 1, cells := 0, slots := 0, locals := 22 } Γ σ [.ref (adr Γ (kW i0 + 5)), .ref (adr Γ (kR i1))] σf rf := by
  refine met_of (by decide +kernel) hJ (Nat.le_of_ble_eq_true rfl) (fun p e s m below meth c ls X hH hl => ?_)
  have hl : lv_has ls 7 [(0, .ref (adr Γ (kW i0 + 5))), (1, .ref (adr Γ (kR i1)))] := hl
  have hx := X.1.1
  have hb := X.1.2.1
  rw [m_X3_findDirectFaults] at h
  refine lv_aload_n hx hb dX3_findDirectFaults_0 rfl (lv_at hl 0 rfl) ?_
  refine r_get X.1 hH (lW _ hi0 5 (by decide)) (dW5 _ hi0) rfl inlX3 5 (by decide) (v := .ref (adr Γ (kW i0 + 9))) rfl mw_118 dX3_findDirectFaults_1 ?_
  obtain ⟨σ103, hq101, h⟩ := bnd_some h
  refine r_callSVN X.1 hl hH (r := ()) (As := [.ref (adr Γ (kW i0 + 9))]) (rest := []) (n := 1) (c_X10_clear l X.1.2.2.2.2.2.2.1 σ 23 i0 (kW i0 + 9) (lW _ hi0 9 (by decide)) (dW9 _ hi0) _ () hq101) mw_470 X.1.2.2.2.2.2.2.2.2 mw_469 mw_2 rfl rfl (by decide +kernel) ⟨Nat.le_of_ble_eq_true rfl, Nat.le_of_ble_eq_true rfl⟩ rfl rfl (Nat.le_of_ble_eq_true rfl) dX3_findDirectFaults_4 ⟨Nat.zero_le _, Nat.zero_le _⟩ (fun H locs hH => ?_)
  refine lv_iconst (v := 0) hx hb dX3_findDirectFaults_7 (by decide) ?_
  refine lv_istore_n (lv' := [(2, .int 0), (0, .ref (adr Γ (kW i0 + 5))), (1, .ref (adr Γ (kR i1)))]) hx hb dX3_findDirectFaults_8 rfl hl (by decide) rfl (fun ls hl => ?_)
  exact b_X3_findDirectFaults_9 (rf := ()) X i0 hi0 i1 hi1  1000 σ103 0 h _ _ _ hH (lv_sub hl [1, 2, 0] rfl)
def m_X3_comesBack_33 (i0 : Nat) (x1 : Int32) (k18 : Sg → Int32 → Int32 → Option (Sg × Int32)) : Nat → Sg → Int32 → Int32 → Int32 → Option (Sg × Int32)
  | 0, _, _, _, _ => none
  | n + 1, σ, x2, x3, x4 => if 2 ≤ x4 then k18 σ x2 (x3 + 1) else chk (inb x3 128) (chk (inb (((2 : Int32) * (σ.1 24 i0 x3.toNatClampNeg)) + x4) 256) (if (σ.1 22 i0 (((2 : Int32) * (σ.1 24 i0 x3.toNatClampNeg)) + x4).toNatClampNeg) = x1 then some (σ, 1) else if (σ.1 22 i0 (((2 : Int32) * (σ.1 24 i0 x3.toNatClampNeg)) + x4).toNatClampNeg) < 0 then m_X3_comesBack_33 i0 x1 k18 n σ x2 x3 (x4 + 1) else chk (inb (σ.1 22 i0 (((2 : Int32) * (σ.1 24 i0 x3.toNatClampNeg)) + x4).toNatClampNeg) 128) (if (σ.1 23 i0 (σ.1 22 i0 (((2 : Int32) * (σ.1 24 i0 x3.toNatClampNeg)) + x4).toNatClampNeg).toNatClampNeg) = 0 then m_X3_comesBack_33 i0 x1 k18 n σ x2 x3 (x4 + 1) else chk (inb (σ.1 22 i0 (((2 : Int32) * (σ.1 24 i0 x3.toNatClampNeg)) + x4).toNatClampNeg) 128) (if (σ.1 25 i0 (σ.1 22 i0 (((2 : Int32) * (σ.1 24 i0 x3.toNatClampNeg)) + x4).toNatClampNeg).toNatClampNeg) = 0 then if 128 ≤ x2 then m_X3_comesBack_33 i0 x1 k18 n σ x2 x3 (x4 + 1) else chk (inb (σ.1 22 i0 (((2 : Int32) * (σ.1 24 i0 x3.toNatClampNeg)) + x4).toNatClampNeg) 128) (st (wI σ 25 i0 (σ.1 22 i0 (((2 : Int32) * (σ.1 24 i0 x3.toNatClampNeg)) + x4).toNatClampNeg).toNatClampNeg 1) (fun σ112 => chk (inb x2 128) (st (wI σ112 24 i0 x2.toNatClampNeg (σ.1 22 i0 (((2 : Int32) * (σ.1 24 i0 x3.toNatClampNeg)) + x4).toNatClampNeg)) (fun σ115 => m_X3_comesBack_33 i0 x1 k18 n σ115 (x2 + 1) x3 (x4 + 1))))) else m_X3_comesBack_33 i0 x1 k18 n σ x2 x3 (x4 + 1)))))
set_option maxHeartbeats 4000000 in
set_option maxRecDepth 100000 in
theorem b_X3_comesBack_33 {p : Program} {l : Launch} {e : Env} {s : State} {m : MethodId} {args : Array Value} {below : List Frame} {meth : Method} {c : Code} {Γ : GG} (X : MB Γ p s m args meth c cX3_comesBack 6 RX3 (some .boolean)) {σf : Sg} {rf : Int32} (i0 : Nat) (hi0 : i0 < 2) (x1 : Int32) (k18 : Sg → Int32 → Int32 → Option (Sg × Int32)) (hk18 : (∀ (σ : Sg) (x2 : Int32) (x3 : Int32), k18 σ x2 x3 = some (σf, rf) → ∀ (H : Heap) (locs : List Loc) (ls : Array Slot), HW (IA Γ) Γ σ s.heap H locs → lv_has ls 6 [(0, .ref (adr Γ (kW i0 + 5))), (1, .int x1), (2, .int x2), (3, .int x3)] → W p l e ({ frames := 1, cells := 0, slots := 0, locals := 21 } : Room) s m args below meth c H locs 0 0 (QI Γ σf rf below args s) (F0 m 18 ls []))) : ∀ (n : Nat), (∀ (σ : Sg) (x2 : Int32) (x3 : Int32) (x4 : Int32), (m_X3_comesBack_33 i0 x1 k18 n) σ x2 x3 x4 = some (σf, rf) → ∀ (H : Heap) (locs : List Loc) (ls : Array Slot), HW (IA Γ) Γ σ s.heap H locs → lv_has ls 6 [(0, .ref (adr Γ (kW i0 + 5))), (1, .int x1), (2, .int x2), (3, .int x3), (4, .int x4)] → W p l e ({ frames := 1, cells := 0, slots := 0, locals := 21 } : Room) s m args below meth c H locs 0 0 (QI Γ σf rf below args s) (F0 m 33 ls [])) := by
  have hx := X.1.1
  have hb := X.1.2.1
  intro n
  induction n with
  | zero => intro σ x2 x3 x4 h; rw [m_X3_comesBack_33] at h; cases h
  | succ n ih =>
    intro σ x2 x3 x4 h H locs ls hH hl
    rw [m_X3_comesBack_33] at h
    refine lv_iload hx hb dX3_comesBack_33 (lv_at hl 4 rfl) ?_
    refine lv_iconst (v := 2) hx hb dX3_comesBack_35 (by decide) ?_
    refine lv_icmp_ge (tgt := 122) hx hb dX3_comesBack_36 (by decide) (fun hc => ?_) (fun hc => ?_)
    · replace h := if_t h hc
      refine lv_iinc (v := x3 + 1) (lv' := [(3, .int (x3 + 1)), (0, .ref (adr Γ (kW i0 + 5))), (1, .int x1), (2, .int x2), (4, .int x4)]) hx hb dX3_comesBack_122 hl (k := 3) rfl rfl (by decide) rfl (fun ls hl => ?_)
      refine lv_goto (tgt := 18) hx hb dX3_comesBack_125 (by decide) ?_
      exact hk18 σ x2 (x3 + 1) h _ _ _ hH (lv_sub hl [1, 2, 3, 0] rfl)
    · replace h := if_f h hc
      refine lv_aload_n hx hb dX3_comesBack_39 rfl (lv_at hl 0 rfl) ?_
      refine r_get X.1 hH (lW _ hi0 5 (by decide)) (dW5 _ hi0) rfl inlX3 4 (by decide) (v := .ref (adr Γ (kW i0 + 8))) rfl mw_117 dX3_comesBack_40 ?_
      refine lv_iconst (v := 2) hx hb dX3_comesBack_43 (by decide) ?_
      refine lv_aload_n hx hb dX3_comesBack_44 rfl (lv_at hl 0 rfl) ?_
      refine r_get X.1 hH (lW _ hi0 5 (by decide)) (dW5 _ hi0) rfl inlX3 6 (by decide) (v := .ref (adr Γ (kW i0 + 10))) rfl mw_119 dX3_comesBack_45 ?_
      refine lv_iload_n hx hb dX3_comesBack_48 rfl (lv_at hl 3 rfl) ?_
      obtain ⟨hg107, h⟩ := chk_some h
      refine r_ild X.1 hH (lW _ hi0 10 (by decide)) (dW10 _ hi0) hg107 dX3_comesBack_49 ?_
      refine lv_imul hx hb dX3_comesBack_50 ?_
      refine lv_iload hx hb dX3_comesBack_51 (lv_at hl 4 rfl) ?_
      refine lv_iadd hx hb dX3_comesBack_53 ?_
      obtain ⟨hg108, h⟩ := chk_some h
      refine r_ild X.1 hH (lW _ hi0 8 (by decide)) (dW8 _ hi0) hg108 dX3_comesBack_54 ?_
      refine lv_istore (lv' := [(5, .int (σ.1 22 i0 (((2 : Int32) * (σ.1 24 i0 x3.toNatClampNeg)) + x4).toNatClampNeg)), (0, .ref (adr Γ (kW i0 + 5))), (1, .int x1), (2, .int x2), (3, .int x3), (4, .int x4)]) hx hb dX3_comesBack_55 hl (by decide) rfl (fun ls hl => ?_)
      refine lv_iload hx hb dX3_comesBack_57 (lv_at hl 0 rfl) ?_
      refine lv_iload_n hx hb dX3_comesBack_59 rfl (lv_at hl 2 rfl) ?_
      refine lv_icmp_ne (tgt := 65) hx hb dX3_comesBack_60 (by decide) (fun hc => ?_) (fun hc => ?_)
      · replace h := if_f h hc
        refine lv_iload hx hb dX3_comesBack_65 (lv_at hl 0 rfl) ?_
        refine lv_if_lt (tgt := 116) hx hb dX3_comesBack_67 (by decide) (fun hc => ?_) (fun hc => ?_)
        · replace h := if_t h hc
          refine lv_iinc (v := x4 + 1) (lv' := [(4, .int (x4 + 1)), (5, .int (σ.1 22 i0 (((2 : Int32) * (σ.1 24 i0 x3.toNatClampNeg)) + x4).toNatClampNeg)), (0, .ref (adr Γ (kW i0 + 5))), (1, .int x1), (2, .int x2), (3, .int x3)]) hx hb dX3_comesBack_116 hl (k := 5) rfl rfl (by decide) rfl (fun ls hl => ?_)
          refine lv_goto (tgt := 33) hx hb dX3_comesBack_119 (by decide) ?_
          exact ih σ x2 x3 (x4 + 1) h _ _ _ hH (lv_sub hl [2, 3, 4, 5, 0] rfl)
        · replace h := if_f h hc
          refine lv_aload_n hx hb dX3_comesBack_70 rfl (lv_at hl 1 rfl) ?_
          refine r_get X.1 hH (lW _ hi0 5 (by decide)) (dW5 _ hi0) rfl inlX3 5 (by decide) (v := .ref (adr Γ (kW i0 + 9))) rfl mw_118 dX3_comesBack_71 ?_
          refine lv_iload hx hb dX3_comesBack_74 (lv_at hl 0 rfl) ?_
          obtain ⟨hg109, h⟩ := chk_some h
          refine r_zld X.1 hH (lW _ hi0 9 (by decide)) (dW9 _ hi0) hg109 dX3_comesBack_76 ?_
          refine lv_if_eq (tgt := 116) hx hb dX3_comesBack_77 (by decide) (fun hc => ?_) (fun hc => ?_)
          · replace h := if_t h hc
            refine lv_iinc (v := x4 + 1) (lv' := [(4, .int (x4 + 1)), (5, .int (σ.1 22 i0 (((2 : Int32) * (σ.1 24 i0 x3.toNatClampNeg)) + x4).toNatClampNeg)), (0, .ref (adr Γ (kW i0 + 5))), (1, .int x1), (2, .int x2), (3, .int x3)]) hx hb dX3_comesBack_116 hl (k := 5) rfl rfl (by decide) rfl (fun ls hl => ?_)
            refine lv_goto (tgt := 33) hx hb dX3_comesBack_119 (by decide) ?_
            exact ih σ x2 x3 (x4 + 1) h _ _ _ hH (lv_sub hl [2, 3, 4, 5, 0] rfl)
          · replace h := if_f h hc
            refine lv_aload_n hx hb dX3_comesBack_80 rfl (lv_at hl 1 rfl) ?_
            refine r_get X.1 hH (lW _ hi0 5 (by decide)) (dW5 _ hi0) rfl inlX3 7 (by decide) (v := .ref (adr Γ (kW i0 + 11))) rfl mw_120 dX3_comesBack_81 ?_
            refine lv_iload hx hb dX3_comesBack_84 (lv_at hl 0 rfl) ?_
            obtain ⟨hg110, h⟩ := chk_some h
            refine r_zld X.1 hH (lW _ hi0 11 (by decide)) (dW11 _ hi0) hg110 dX3_comesBack_86 ?_
            refine lv_if_ne (tgt := 116) hx hb dX3_comesBack_87 (by decide) (fun hc => ?_) (fun hc => ?_)
            · replace h := if_f h hc
              refine lv_iinc (v := x4 + 1) (lv' := [(4, .int (x4 + 1)), (5, .int (σ.1 22 i0 (((2 : Int32) * (σ.1 24 i0 x3.toNatClampNeg)) + x4).toNatClampNeg)), (0, .ref (adr Γ (kW i0 + 5))), (1, .int x1), (2, .int x2), (3, .int x3)]) hx hb dX3_comesBack_116 hl (k := 5) rfl rfl (by decide) rfl (fun ls hl => ?_)
              refine lv_goto (tgt := 33) hx hb dX3_comesBack_119 (by decide) ?_
              exact ih σ x2 x3 (x4 + 1) h _ _ _ hH (lv_sub hl [2, 3, 4, 5, 0] rfl)
            · replace h := if_t h hc
              refine lv_iload_n hx hb dX3_comesBack_90 rfl (lv_at hl 3 rfl) ?_
              refine lv_sipush (v := 128) hx hb dX3_comesBack_91 (by decide) ?_
              refine lv_icmp_ge (tgt := 116) hx hb dX3_comesBack_94 (by decide) (fun hc => ?_) (fun hc => ?_)
              · replace h := if_t h hc
                refine lv_iinc (v := x4 + 1) (lv' := [(4, .int (x4 + 1)), (5, .int (σ.1 22 i0 (((2 : Int32) * (σ.1 24 i0 x3.toNatClampNeg)) + x4).toNatClampNeg)), (0, .ref (adr Γ (kW i0 + 5))), (1, .int x1), (2, .int x2), (3, .int x3)]) hx hb dX3_comesBack_116 hl (k := 5) rfl rfl (by decide) rfl (fun ls hl => ?_)
                refine lv_goto (tgt := 33) hx hb dX3_comesBack_119 (by decide) ?_
                exact ih σ x2 x3 (x4 + 1) h _ _ _ hH (lv_sub hl [2, 3, 4, 5, 0] rfl)
              · replace h := if_f h hc
                refine lv_aload_n hx hb dX3_comesBack_97 rfl (lv_at hl 1 rfl) ?_
                refine r_get X.1 hH (lW _ hi0 5 (by decide)) (dW5 _ hi0) rfl inlX3 7 (by decide) (v := .ref (adr Γ (kW i0 + 11))) rfl mw_120 dX3_comesBack_98 ?_
                refine lv_iload hx hb dX3_comesBack_101 (lv_at hl 0 rfl) ?_
                refine lv_iconst (v := 1) hx hb dX3_comesBack_103 (by decide) ?_
                obtain ⟨hg111, h⟩ := chk_some h
                obtain ⟨σ112, e113, h⟩ := st_some h
                refine r_zst X.1 hH (lW _ hi0 11 (by decide)) (dW11 _ hi0) hg111 rfl dX3_comesBack_104 (fun H locs hH => ?_)
                replace hH : HW (IA Γ) Γ σ112 s.heap H locs := by rw [e113]; exact hH
                refine lv_aload_n hx hb dX3_comesBack_105 rfl (lv_at hl 1 rfl) ?_
                refine r_get X.1 hH (lW _ hi0 5 (by decide)) (dW5 _ hi0) rfl inlX3 6 (by decide) (v := .ref (adr Γ (kW i0 + 10))) rfl mw_119 dX3_comesBack_106 ?_
                refine lv_iload_n hx hb dX3_comesBack_109 rfl (lv_at hl 3 rfl) ?_
                refine lv_iload hx hb dX3_comesBack_110 (lv_at hl 0 rfl) ?_
                obtain ⟨hg114, h⟩ := chk_some h
                obtain ⟨σ115, e116, h⟩ := st_some h
                refine r_ist X.1 hH (lW _ hi0 10 (by decide)) (dW10 _ hi0) hg114 dX3_comesBack_112 (fun H locs hH => ?_)
                replace hH : HW (IA Γ) Γ σ115 s.heap H locs := by rw [e116]; exact hH
                refine lv_iinc (v := x2 + 1) (lv' := [(2, .int (x2 + 1)), (5, .int (σ.1 22 i0 (((2 : Int32) * (σ.1 24 i0 x3.toNatClampNeg)) + x4).toNatClampNeg)), (0, .ref (adr Γ (kW i0 + 5))), (1, .int x1), (3, .int x3), (4, .int x4)]) hx hb dX3_comesBack_113 hl (k := 3) rfl rfl (by decide) rfl (fun ls hl => ?_)
                refine lv_iinc (v := x4 + 1) (lv' := [(4, .int (x4 + 1)), (2, .int (x2 + 1)), (5, .int (σ.1 22 i0 (((2 : Int32) * (σ.1 24 i0 x3.toNatClampNeg)) + x4).toNatClampNeg)), (0, .ref (adr Γ (kW i0 + 5))), (1, .int x1), (3, .int x3)]) hx hb dX3_comesBack_116 hl (k := 5) rfl rfl (by decide) rfl (fun ls hl => ?_)
                refine lv_goto (tgt := 33) hx hb dX3_comesBack_119 (by decide) ?_
                exact ih σ115 (x2 + 1) x3 (x4 + 1) h _ _ _ hH (lv_sub hl [3, 4, 1, 5, 0] rfl)
      · replace h := if_t h hc
        refine lv_iconst (v := 1) hx hb dX3_comesBack_63 (by decide) ?_
        cases h
        exact e_int X hH rfl dX3_comesBack_64
def m_X3_comesBack_18 (i0 : Nat) (x1 : Int32)  : Nat → Sg → Int32 → Int32 → Option (Sg × Int32)
  | 0, _, _, _ => none
  | n + 1, σ, x2, x3 => if x2 ≤ x3 then some (σ, 0) else if 128 ≤ x3 then some (σ, 0) else m_X3_comesBack_33 i0 x1 (m_X3_comesBack_18 i0 x1 n) 1000 σ x2 x3 0
set_option maxHeartbeats 4000000 in
set_option maxRecDepth 100000 in
theorem b_X3_comesBack_18 {p : Program} {l : Launch} {e : Env} {s : State} {m : MethodId} {args : Array Value} {below : List Frame} {meth : Method} {c : Code} {Γ : GG} (X : MB Γ p s m args meth c cX3_comesBack 6 RX3 (some .boolean)) {σf : Sg} {rf : Int32} (i0 : Nat) (hi0 : i0 < 2) (x1 : Int32) : ∀ (n : Nat), (∀ (σ : Sg) (x2 : Int32) (x3 : Int32), (m_X3_comesBack_18 i0 x1 n) σ x2 x3 = some (σf, rf) → ∀ (H : Heap) (locs : List Loc) (ls : Array Slot), HW (IA Γ) Γ σ s.heap H locs → lv_has ls 6 [(0, .ref (adr Γ (kW i0 + 5))), (1, .int x1), (2, .int x2), (3, .int x3)] → W p l e ({ frames := 1, cells := 0, slots := 0, locals := 21 } : Room) s m args below meth c H locs 0 0 (QI Γ σf rf below args s) (F0 m 18 ls [])) := by
  have hx := X.1.1
  have hb := X.1.2.1
  intro n
  induction n with
  | zero => intro σ x2 x3 h; rw [m_X3_comesBack_18] at h; cases h
  | succ n ih =>
    intro σ x2 x3 h H locs ls hH hl
    rw [m_X3_comesBack_18] at h
    refine lv_iload_n hx hb dX3_comesBack_18 rfl (lv_at hl 3 rfl) ?_
    refine lv_iload_n hx hb dX3_comesBack_19 rfl (lv_at hl 2 rfl) ?_
    refine lv_icmp_ge (tgt := 128) hx hb dX3_comesBack_20 (by decide) (fun hc => ?_) (fun hc => ?_)
    · replace h := if_t h hc
      refine lv_iconst (v := 0) hx hb dX3_comesBack_128 (by decide) ?_
      cases h
      exact e_int X hH rfl dX3_comesBack_129
    · replace h := if_f h hc
      refine lv_iload_n hx hb dX3_comesBack_23 rfl (lv_at hl 3 rfl) ?_
      refine lv_sipush (v := 128) hx hb dX3_comesBack_24 (by decide) ?_
      refine lv_icmp_ge (tgt := 128) hx hb dX3_comesBack_27 (by decide) (fun hc => ?_) (fun hc => ?_)
      · replace h := if_t h hc
        refine lv_iconst (v := 0) hx hb dX3_comesBack_128 (by decide) ?_
        cases h
        exact e_int X hH rfl dX3_comesBack_129
      · replace h := if_f h hc
        refine lv_iconst (v := 0) hx hb dX3_comesBack_30 (by decide) ?_
        refine lv_istore (lv' := [(4, .int 0), (0, .ref (adr Γ (kW i0 + 5))), (1, .int x1), (2, .int x2), (3, .int x3)]) hx hb dX3_comesBack_31 hl (by decide) rfl (fun ls hl => ?_)
        exact b_X3_comesBack_33 X i0 hi0 x1 (m_X3_comesBack_18 i0 x1 n) ih 1000 σ x2 x3 0 h _ _ _ hH (lv_sub hl [1, 2, 3, 4, 0] rfl)
/-- CutoffMill$Maker.comesBack(I)Z -/
def m_X3_comesBack (σ : Sg) (i0 : Nat) (x1 : Int32) : Option (Sg × Int32) := bnd (m_X10_clear σ 25 i0) (fun σ103 => chk (inb 0 128) (st (wI σ103 24 i0 (0 : Int32).toNatClampNeg x1) (fun σ105 => m_X3_comesBack_18 i0 x1 1000 σ105 1 0)))
set_option maxHeartbeats 4000000 in
set_option maxRecDepth 100000 in
theorem c_X3_comesBack (l : Launch) {Γ : GG} (hJ : IJ Γ) (σ : Sg) (i0 : Nat) (hi0 : i0 < 2) (x1 : Int32) (σf : Sg) (rf : Int32) (h : m_X3_comesBack σ i0 x1 = some (σf, rf)) : CI l yX3_comesBack (wy yX3_comesBack cX3_comesBack 6 (some .boolean)) { frames := 1, cells := 0, slots := 0, locals := 21 } Γ σ [.ref (adr Γ (kW i0 + 5)), .int x1] σf rf := by
  refine met_of (by decide +kernel) hJ (Nat.le_of_ble_eq_true rfl) (fun p e s m below meth c ls X hH hl => ?_)
  have hl : lv_has ls 6 [(0, .ref (adr Γ (kW i0 + 5))), (1, .int x1)] := hl
  have hx := X.1.1
  have hb := X.1.2.1
  rw [m_X3_comesBack] at h
  refine lv_aload_n hx hb dX3_comesBack_0 rfl (lv_at hl 0 rfl) ?_
  refine r_get X.1 hH (lW _ hi0 5 (by decide)) (dW5 _ hi0) rfl inlX3 7 (by decide) (v := .ref (adr Γ (kW i0 + 11))) rfl mw_120 dX3_comesBack_1 ?_
  obtain ⟨σ103, hq101, h⟩ := bnd_some h
  refine r_callSVN X.1 hl hH (r := ()) (As := [.ref (adr Γ (kW i0 + 11))]) (rest := []) (n := 1) (c_X10_clear l X.1.2.2.2.2.2.2.1 σ 25 i0 (kW i0 + 11) (lW _ hi0 11 (by decide)) (dW11 _ hi0) _ () hq101) mw_470 X.1.2.2.2.2.2.2.2.2 mw_469 mw_2 rfl rfl (by decide +kernel) ⟨Nat.le_of_ble_eq_true rfl, Nat.le_of_ble_eq_true rfl⟩ rfl rfl (Nat.le_of_ble_eq_true rfl) dX3_comesBack_4 ⟨Nat.zero_le _, Nat.zero_le _⟩ (fun H locs hH => ?_)
  refine lv_aload_n hx hb dX3_comesBack_7 rfl (lv_at hl 0 rfl) ?_
  refine r_get X.1 hH (lW _ hi0 5 (by decide)) (dW5 _ hi0) rfl inlX3 6 (by decide) (v := .ref (adr Γ (kW i0 + 10))) rfl mw_119 dX3_comesBack_8 ?_
  refine lv_iconst (v := 0) hx hb dX3_comesBack_11 (by decide) ?_
  refine lv_iload_n hx hb dX3_comesBack_12 rfl (lv_at hl 1 rfl) ?_
  obtain ⟨hg104, h⟩ := chk_some h
  obtain ⟨σ105, e106, h⟩ := st_some h
  refine r_ist X.1 hH (lW _ hi0 10 (by decide)) (dW10 _ hi0) hg104 dX3_comesBack_13 (fun H locs hH => ?_)
  replace hH : HW (IA Γ) Γ σ105 s.heap H locs := by rw [e106]; exact hH
  refine lv_iconst (v := 1) hx hb dX3_comesBack_14 (by decide) ?_
  refine lv_istore_n (lv' := [(2, .int 1), (0, .ref (adr Γ (kW i0 + 5))), (1, .int x1)]) hx hb dX3_comesBack_15 rfl hl (by decide) rfl (fun ls hl => ?_)
  refine lv_iconst (v := 0) hx hb dX3_comesBack_16 (by decide) ?_
  refine lv_istore_n (lv' := [(3, .int 0), (2, .int 1), (0, .ref (adr Γ (kW i0 + 5))), (1, .int x1)]) hx hb dX3_comesBack_17 rfl hl (by decide) rfl (fun ls hl => ?_)
  exact b_X3_comesBack_18 X i0 hi0 x1  1000 σ105 1 0 h _ _ _ hH (lv_sub hl [2, 3, 1, 0] rfl)
