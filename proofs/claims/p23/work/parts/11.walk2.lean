/-! WALKS, laid by wip/p23/gen.py: X1_reference, X4_want, X4_wantReferences, X4_settle, X6_settleLeaning, X6_ringAround, X6_nextBehind -/
/-- CutoffMill$Declaration.reference(II)I -/
def m_X1_reference (σ : Sg) (x0 : Int32) (x1 : Int32) : Option Int32 := if x1 = 0 then some (((x0 >>> ((11 : Int32) &&& 31)) &&& (31 : Int32)) - (1 : Int32)) else some (((x0 >>> ((16 : Int32) &&& 31)) &&& (31 : Int32)) - (1 : Int32))
set_option maxHeartbeats 4000000 in
set_option maxRecDepth 100000 in
theorem c_X1_reference (l : Launch) {Γ : GG} (hJ : IJ Γ) (σ : Sg) (x0 : Int32) (x1 : Int32) (rf : Int32) (h : m_X1_reference σ x0 x1 = some rf) : CI l yX1_reference (wy yX1_reference cX1_reference 2 (some .int)) { frames := 0, cells := 0, slots := 0, locals := 0 } Γ σ [.int x0, .int x1] σ rf := by
  refine met_of (by decide +kernel) hJ (Nat.le_of_ble_eq_true rfl) (fun p e s m below meth c ls X hH hl => ?_)
  have hl : lv_has ls 2 [(0, .int x0), (1, .int x1)] := hl
  have hx := X.1.1
  have hb := X.1.2.1
  rw [m_X1_reference] at h
  refine lv_iload_n hx hb dX1_reference_0 rfl (lv_at hl 0 rfl) ?_
  refine lv_iload_n hx hb dX1_reference_1 rfl (lv_at hl 1 rfl) ?_
  refine lv_if_ne (tgt := 10) hx hb dX1_reference_2 (by decide) (fun hc => ?_) (fun hc => ?_)
  · replace h := if_f h hc
    refine lv_bipush (v := 16) hx hb dX1_reference_10 (by decide) ?_
    refine lv_ishr hx hb dX1_reference_12 ?_
    refine lv_bipush (v := 31) hx hb dX1_reference_13 (by decide) ?_
    refine lv_iand hx hb dX1_reference_15 ?_
    refine lv_iconst (v := 1) hx hb dX1_reference_16 (by decide) ?_
    refine lv_isub hx hb dX1_reference_17 ?_
    cases h
    exact e_int X hH rfl dX1_reference_18
  · replace h := if_t h hc
    refine lv_bipush (v := 11) hx hb dX1_reference_5 (by decide) ?_
    refine lv_goto (tgt := 12) hx hb dX1_reference_7 (by decide) ?_
    refine lv_ishr hx hb dX1_reference_12 ?_
    refine lv_bipush (v := 31) hx hb dX1_reference_13 (by decide) ?_
    refine lv_iand hx hb dX1_reference_15 ?_
    refine lv_iconst (v := 1) hx hb dX1_reference_16 (by decide) ?_
    refine lv_isub hx hb dX1_reference_17 ?_
    cases h
    exact e_int X hH rfl dX1_reference_18
def m_X4_want_66 (x1 : Int32) (x2 : Int32)  : Nat → Sg → Int32 → Option Sg
  | 0, _, _ => none
  | n + 1, σ, x4 => if 8 ≤ x4 then some σ else chk (inb x1 8) (bnd (m_X6_has σ (σ.1 11 0 x1.toNatClampNeg) x4) (fun r107 => if r107 = 0 then m_X4_want_66 x1 x2 n σ (x4 + 1) else chk (inb ((x1 * (8 : Int32)) + x4) 64) (chk (inb ((x1 * (8 : Int32)) + x4) 64) (st (wI σ 8 0 ((x1 * (8 : Int32)) + x4).toNatClampNeg ((σ.1 8 0 ((x1 * (8 : Int32)) + x4).toNatClampNeg) ||| ((1 : Int32) <<< (x2 &&& 31)))) (fun σ111 => m_X4_want_66 x1 x2 n σ111 (x4 + 1))))))
set_option maxHeartbeats 4000000 in
set_option maxRecDepth 100000 in
theorem b_X4_want_66 {p : Program} {l : Launch} {e : Env} {s : State} {m : MethodId} {args : Array Value} {below : List Frame} {meth : Method} {c : Code} {Γ : GG} (X : MB Γ p s m args meth c cX4_want 5 RX4 none) {σf : Sg} {rf : Unit} (x1 : Int32) (x2 : Int32) : ∀ (n : Nat), (∀ (σ : Sg) (x4 : Int32), (m_X4_want_66 x1 x2 n) σ x4 = some σf → ∀ (H : Heap) (locs : List Loc) (ls : Array Slot), HW (IA Γ) Γ σ s.heap H locs → lv_has ls 5 [(0, .ref (adr Γ 4)), (1, .int x1), (2, .int x2), (4, .int x4)] → W p l e ({ frames := 1, cells := 0, slots := 0, locals := 21 } : Room) s m args below meth c H locs 0 0 (QV Γ σf rf below args s) (F0 m 66 ls [])) := by
  have hx := X.1.1
  have hb := X.1.2.1
  intro n
  induction n with
  | zero => intro σ x4 h; rw [m_X4_want_66] at h; cases h
  | succ n ih =>
    intro σ x4 h H locs ls hH hl
    rw [m_X4_want_66] at h
    refine lv_iload hx hb dX4_want_66 (lv_at hl 3 rfl) ?_
    refine lv_bipush (v := 8) hx hb dX4_want_68 (by decide) ?_
    refine lv_icmp_ge (tgt := 111) hx hb dX4_want_70 (by decide) (fun hc => ?_) (fun hc => ?_)
    · replace h := if_t h hc
      cases h
      exact e_void (v := rf) X hH dX4_want_111
    · replace h := if_f h hc
      refine lv_aload_n hx hb dX4_want_73 rfl (lv_at hl 0 rfl) ?_
      refine r_get X.1 hH (by decide) rfl rfl inlX4 6 (by decide) (v := .ref (adr Γ 10)) rfl mw_45 dX4_want_74 ?_
      refine lv_iload_n hx hb dX4_want_77 rfl (lv_at hl 1 rfl) ?_
      obtain ⟨hg105, h⟩ := chk_some h
      refine r_ild X.1 hH (by decide) rfl hg105 dX4_want_78 ?_
      refine lv_iload hx hb dX4_want_79 (lv_at hl 3 rfl) ?_
      obtain ⟨r107, hq106, h⟩ := bnd_some h
      refine r_callSI X.1 hl hH (As := [.int (σ.1 11 0 x1.toNatClampNeg), .int x4]) (rest := []) (c_X6_has l X.1.2.2.2.2.2.2.1 σ (σ.1 11 0 x1.toNatClampNeg) x4 _ hq106) (cw_S X.1 2 mw_204 mw_202 mw_203 mw_20 rfl rfl (by decide +kernel) ⟨Nat.le_of_ble_eq_true rfl, Nat.le_of_ble_eq_true rfl⟩) rfl rfl (Nat.le_of_ble_eq_true rfl) dX4_want_81 ⟨Nat.zero_le _, Nat.zero_le _⟩ (fun H locs hH => ?_)
      refine lv_if_eq (tgt := 105) hx hb dX4_want_84 (by decide) (fun hc => ?_) (fun hc => ?_)
      · replace h := if_t h hc
        refine lv_iinc (v := x4 + 1) (lv' := [(4, .int (x4 + 1)), (0, .ref (adr Γ 4)), (1, .int x1), (2, .int x2)]) hx hb dX4_want_105 hl (k := 3) rfl rfl (by decide) rfl (fun ls hl => ?_)
        refine lv_goto (tgt := 66) hx hb dX4_want_108 (by decide) ?_
        exact ih σ (x4 + 1) h _ _ _ hH (lv_sub hl [1, 2, 3, 0] rfl)
      · replace h := if_f h hc
        refine lv_aload_n hx hb dX4_want_87 rfl (lv_at hl 0 rfl) ?_
        refine r_get X.1 hH (by decide) rfl rfl inlX4 3 (by decide) (v := .ref (adr Γ 7)) rfl mw_42 dX4_want_88 ?_
        refine lv_iload_n hx hb dX4_want_91 rfl (lv_at hl 1 rfl) ?_
        refine lv_bipush (v := 8) hx hb dX4_want_92 (by decide) ?_
        refine lv_imul hx hb dX4_want_94 ?_
        refine lv_iload hx hb dX4_want_95 (lv_at hl 3 rfl) ?_
        refine lv_iadd hx hb dX4_want_97 ?_
        refine lv_dup2_11 hx hb dX4_want_98 rfl rfl ?_
        obtain ⟨hg109, h⟩ := chk_some h
        refine r_ild X.1 hH (by decide) rfl hg109 dX4_want_99 ?_
        refine lv_iconst (v := 1) hx hb dX4_want_100 (by decide) ?_
        refine lv_iload_n hx hb dX4_want_101 rfl (lv_at hl 2 rfl) ?_
        refine lv_ishl hx hb dX4_want_102 ?_
        refine lv_ior hx hb dX4_want_103 ?_
        obtain ⟨hg110, h⟩ := chk_some h
        obtain ⟨σ111, e112, h⟩ := st_some h
        refine r_ist X.1 hH (by decide) rfl hg110 dX4_want_104 (fun H locs hH => ?_)
        replace hH : HW (IA Γ) Γ σ111 s.heap H locs := by rw [e112]; exact hH
        refine lv_iinc (v := x4 + 1) (lv' := [(4, .int (x4 + 1)), (0, .ref (adr Γ 4)), (1, .int x1), (2, .int x2)]) hx hb dX4_want_105 hl (k := 3) rfl rfl (by decide) rfl (fun ls hl => ?_)
        refine lv_goto (tgt := 66) hx hb dX4_want_108 (by decide) ?_
        exact ih σ111 (x4 + 1) h _ _ _ hH (lv_sub hl [1, 2, 3, 0] rfl)
/-- CutoffMill$Names.want(II)V -/
def m_X4_want (σ : Sg) (x1 : Int32) (x2 : Int32) : Option Sg := if x2 = ((-1)) then some σ else bnd (m_X8_isDeclared σ 0 ((x1 * (16 : Int32)) + x2)) (fun r102 => if r102 = 0 then chk (inb ((x1 * (16 : Int32)) + x2) 128) (if (σ.1 9 0 ((x1 * (16 : Int32)) + x2).toNatClampNeg) = ((-1)) then m_X4_want_66 x1 x2 1000 σ 0 else chk (inb ((x1 * (8 : Int32)) + ((σ.1 9 0 ((x1 * (16 : Int32)) + x2).toNatClampNeg) / (16 : Int32))) 64) (chk (inb ((x1 * (8 : Int32)) + ((σ.1 9 0 ((x1 * (16 : Int32)) + x2).toNatClampNeg) / (16 : Int32))) 64) (st (wI σ 8 0 ((x1 * (8 : Int32)) + ((σ.1 9 0 ((x1 * (16 : Int32)) + x2).toNatClampNeg) / (16 : Int32))).toNatClampNeg ((σ.1 8 0 ((x1 * (8 : Int32)) + ((σ.1 9 0 ((x1 * (16 : Int32)) + x2).toNatClampNeg) / (16 : Int32))).toNatClampNeg) ||| ((1 : Int32) <<< (((σ.1 9 0 ((x1 * (16 : Int32)) + x2).toNatClampNeg) - (σ.1 9 0 ((x1 * (16 : Int32)) + x2).toNatClampNeg) / (16 : Int32) * (16 : Int32)) &&& 31)))) (fun σ115 => some σ115)))) else some σ)
set_option maxHeartbeats 4000000 in
set_option maxRecDepth 100000 in
theorem c_X4_want (l : Launch) {Γ : GG} (hJ : IJ Γ) (σ : Sg) (x1 : Int32) (x2 : Int32) (σf : Sg) (rf : Unit) (h : m_X4_want σ x1 x2 = some σf) : CV l yX4_want (wy yX4_want cX4_want 5 none) { frames := 1, cells := 0, slots := 0, locals := 21 } Γ σ [.ref (adr Γ 4), .int x1, .int x2] σf rf := by
  refine met_of (by decide +kernel) hJ (Nat.le_of_ble_eq_true rfl) (fun p e s m below meth c ls X hH hl => ?_)
  have hl : lv_has ls 5 [(0, .ref (adr Γ 4)), (1, .int x1), (2, .int x2)] := hl
  have hx := X.1.1
  have hb := X.1.2.1
  rw [m_X4_want] at h
  refine lv_iload_n hx hb dX4_want_0 rfl (lv_at hl 2 rfl) ?_
  refine lv_iconst (v := (-1)) hx hb dX4_want_1 (by decide) ?_
  refine lv_icmp_eq (tgt := 21) hx hb dX4_want_2 (by decide) (fun hc => ?_) (fun hc => ?_)
  · replace h := if_t h hc
    cases h
    exact e_void (v := rf) X hH dX4_want_21
  · replace h := if_f h hc
    refine lv_aload_n hx hb dX4_want_5 rfl (lv_at hl 0 rfl) ?_
    refine r_get X.1 hH (by decide) rfl rfl inlX4 0 (by decide) (v := .ref (adr Γ (kT 0))) rfl mw_47 dX4_want_6 ?_
    refine lv_iload_n hx hb dX4_want_9 rfl (lv_at hl 1 rfl) ?_
    refine lv_bipush (v := 16) hx hb dX4_want_10 (by decide) ?_
    refine lv_imul hx hb dX4_want_12 ?_
    refine lv_iload_n hx hb dX4_want_13 rfl (lv_at hl 2 rfl) ?_
    refine lv_iadd hx hb dX4_want_14 ?_
    obtain ⟨r102, hq101, h⟩ := bnd_some h
    refine r_callVI X.1 hl hH (As := [.int ((x1 * (16 : Int32)) + x2)]) (rest := []) (c_X8_isDeclared l X.1.2.2.2.2.2.2.1 σ 0 (by omega) ((x1 * (16 : Int32)) + x2) _ hq101) (cw_V X.1 1 mw_193 mw_190 mw_191 mw_192 mw_12 rfl rfl (by decide +kernel) ⟨Nat.le_of_ble_eq_true rfl, Nat.le_of_ble_eq_true rfl⟩) (r_recv X.1 hH (kT_lt (by omega)) (dT0 _ (by omega)) rfl) rfl rfl (Nat.le_of_ble_eq_true rfl) dX4_want_15 ⟨Nat.zero_le _, Nat.zero_le _⟩ (fun H locs hH => ?_)
    refine lv_if_eq (tgt := 22) hx hb dX4_want_18 (by decide) (fun hc => ?_) (fun hc => ?_)
    · replace h := if_t h hc
      refine lv_aload_n hx hb dX4_want_22 rfl (lv_at hl 0 rfl) ?_
      refine r_get X.1 hH (by decide) rfl rfl inlX4 4 (by decide) (v := .ref (adr Γ 8)) rfl mw_43 dX4_want_23 ?_
      refine lv_iload_n hx hb dX4_want_26 rfl (lv_at hl 1 rfl) ?_
      refine lv_bipush (v := 16) hx hb dX4_want_27 (by decide) ?_
      refine lv_imul hx hb dX4_want_29 ?_
      refine lv_iload_n hx hb dX4_want_30 rfl (lv_at hl 2 rfl) ?_
      refine lv_iadd hx hb dX4_want_31 ?_
      obtain ⟨hg104, h⟩ := chk_some h
      refine r_ild X.1 hH (by decide) rfl hg104 dX4_want_32 ?_
      refine lv_istore_n (lv' := [(3, .int (σ.1 9 0 ((x1 * (16 : Int32)) + x2).toNatClampNeg)), (0, .ref (adr Γ 4)), (1, .int x1), (2, .int x2)]) hx hb dX4_want_33 rfl hl (by decide) rfl (fun ls hl => ?_)
      refine lv_iload_n hx hb dX4_want_34 rfl (lv_at hl 0 rfl) ?_
      refine lv_iconst (v := (-1)) hx hb dX4_want_35 (by decide) ?_
      refine lv_icmp_eq (tgt := 63) hx hb dX4_want_36 (by decide) (fun hc => ?_) (fun hc => ?_)
      · replace h := if_t h hc
        refine lv_iconst (v := 0) hx hb dX4_want_63 (by decide) ?_
        refine lv_istore (lv' := [(4, .int 0), (3, .int (σ.1 9 0 ((x1 * (16 : Int32)) + x2).toNatClampNeg)), (0, .ref (adr Γ 4)), (1, .int x1), (2, .int x2)]) hx hb dX4_want_64 hl (by decide) rfl (fun ls hl => ?_)
        exact b_X4_want_66 (rf := ()) X x1 x2  1000 σ 0 h _ _ _ hH (lv_sub hl [2, 3, 4, 0] rfl)
      · replace h := if_f h hc
        refine lv_aload_n hx hb dX4_want_39 rfl (lv_at hl 1 rfl) ?_
        refine r_get X.1 hH (by decide) rfl rfl inlX4 3 (by decide) (v := .ref (adr Γ 7)) rfl mw_42 dX4_want_40 ?_
        refine lv_iload_n hx hb dX4_want_43 rfl (lv_at hl 2 rfl) ?_
        refine lv_bipush (v := 8) hx hb dX4_want_44 (by decide) ?_
        refine lv_imul hx hb dX4_want_46 ?_
        refine lv_iload_n hx hb dX4_want_47 rfl (lv_at hl 0 rfl) ?_
        refine lv_bipush (v := 16) hx hb dX4_want_48 (by decide) ?_
        refine lv_idiv hx hb dX4_want_50 (by decide) ?_
        refine lv_iadd hx hb dX4_want_51 ?_
        refine lv_dup2_11 hx hb dX4_want_52 rfl rfl ?_
        obtain ⟨hg113, h⟩ := chk_some h
        refine r_ild X.1 hH (by decide) rfl hg113 dX4_want_53 ?_
        refine lv_iconst (v := 1) hx hb dX4_want_54 (by decide) ?_
        refine lv_iload_n hx hb dX4_want_55 rfl (lv_at hl 0 rfl) ?_
        refine lv_bipush (v := 16) hx hb dX4_want_56 (by decide) ?_
        refine lv_irem hx hb dX4_want_58 (by decide) ?_
        refine lv_ishl hx hb dX4_want_59 ?_
        refine lv_ior hx hb dX4_want_60 ?_
        obtain ⟨hg114, h⟩ := chk_some h
        obtain ⟨σ115, e116, h⟩ := st_some h
        refine r_ist X.1 hH (by decide) rfl hg114 dX4_want_61 (fun H locs hH => ?_)
        replace hH : HW (IA Γ) Γ σ115 s.heap H locs := by rw [e116]; exact hH
        cases h
        exact e_void (v := rf) X hH dX4_want_62
    · replace h := if_f h hc
      cases h
      exact e_void (v := rf) X hH dX4_want_21
def m_X4_wantReferences_13 (x1 : Int32)  : Nat → Sg → Int32 → Option Sg
  | 0, _, _ => none
  | n + 1, σ, x2 => if 2 ≤ x2 then some σ else chk (inb x1 128) (bnd (m_X1_reference σ (σ.1 26 0 x1.toNatClampNeg) x2) (fun r106 => bnd (m_X4_want σ (x1 / (16 : Int32)) r106) (fun σ110 => m_X4_wantReferences_13 x1 n σ110 (x2 + 1))))
set_option maxHeartbeats 4000000 in
set_option maxRecDepth 100000 in
theorem b_X4_wantReferences_13 {p : Program} {l : Launch} {e : Env} {s : State} {m : MethodId} {args : Array Value} {below : List Frame} {meth : Method} {c : Code} {Γ : GG} (X : MB Γ p s m args meth c cX4_wantReferences 3 RX4 none) {σf : Sg} {rf : Unit} (x1 : Int32) : ∀ (n : Nat), (∀ (σ : Sg) (x2 : Int32), (m_X4_wantReferences_13 x1 n) σ x2 = some σf → ∀ (H : Heap) (locs : List Loc) (ls : Array Slot), HW (IA Γ) Γ σ s.heap H locs → lv_has ls 3 [(0, .ref (adr Γ 4)), (1, .int x1), (2, .int x2)] → W p l e ({ frames := 2, cells := 0, slots := 0, locals := 45 } : Room) s m args below meth c H locs 0 0 (QV Γ σf rf below args s) (F0 m 13 ls [])) := by
  have hx := X.1.1
  have hb := X.1.2.1
  intro n
  induction n with
  | zero => intro σ x2 h; rw [m_X4_wantReferences_13] at h; cases h
  | succ n ih =>
    intro σ x2 h H locs ls hH hl
    rw [m_X4_wantReferences_13] at h
    refine lv_iload_n hx hb dX4_wantReferences_13 rfl (lv_at hl 2 rfl) ?_
    refine lv_iconst (v := 2) hx hb dX4_wantReferences_14 (by decide) ?_
    refine lv_icmp_ge (tgt := 45) hx hb dX4_wantReferences_15 (by decide) (fun hc => ?_) (fun hc => ?_)
    · replace h := if_t h hc
      cases h
      exact e_void (v := rf) X hH dX4_wantReferences_45
    · replace h := if_f h hc
      refine lv_aload_n hx hb dX4_wantReferences_18 rfl (lv_at hl 0 rfl) ?_
      refine lv_iload_n hx hb dX4_wantReferences_19 rfl (lv_at hl 1 rfl) ?_
      refine lv_bipush (v := 16) hx hb dX4_wantReferences_20 (by decide) ?_
      refine lv_idiv hx hb dX4_wantReferences_22 (by decide) ?_
      refine lv_aload_n hx hb dX4_wantReferences_23 rfl (lv_at hl 0 rfl) ?_
      refine r_get X.1 hH (by decide) rfl rfl inlX4 0 (by decide) (v := .ref (adr Γ (kT 0))) rfl mw_47 dX4_wantReferences_24 ?_
      refine r_get X.1 hH (kT_lt (by omega)) (dT0 _ (by omega)) rfl inlX8 0 (by decide) (v := .ref (adr Γ (kT 0 + 1))) rfl mw_189 dX4_wantReferences_27 ?_
      refine lv_iload_n hx hb dX4_wantReferences_30 rfl (lv_at hl 1 rfl) ?_
      obtain ⟨hg104, h⟩ := chk_some h
      refine r_ild X.1 hH (lT1 _ (by omega)) (dT1 _ (by omega)) hg104 dX4_wantReferences_31 ?_
      refine lv_iload_n hx hb dX4_wantReferences_32 rfl (lv_at hl 2 rfl) ?_
      obtain ⟨r106, hq105, h⟩ := bnd_some h
      refine r_callSI X.1 hl hH (As := [.int (σ.1 26 0 x1.toNatClampNeg), .int x2]) (rest := [.int (x1 / (16 : Int32)), .ref (adr Γ 4)]) (c_X1_reference l X.1.2.2.2.2.2.2.1 σ (σ.1 26 0 x1.toNatClampNeg) x2 _ hq105) (cw_S X.1 2 mw_214 mw_212 mw_213 mw_196 rfl rfl (by decide +kernel) ⟨Nat.le_of_ble_eq_true rfl, Nat.le_of_ble_eq_true rfl⟩) rfl rfl (Nat.le_of_ble_eq_true rfl) dX4_wantReferences_33 ⟨Nat.zero_le _, Nat.zero_le _⟩ (fun H locs hH => ?_)
      obtain ⟨σ110, hq108, h⟩ := bnd_some h
      refine r_callVV X.1 hl hH (r := ()) (As := [.int (x1 / (16 : Int32)), .int r106]) (rest := []) (c_X4_want l X.1.2.2.2.2.2.2.1 σ (x1 / (16 : Int32)) r106 _ () hq108) (cw_V X.1 2 mw_218 mw_215 mw_216 mw_217 mw_16 rfl rfl (by decide +kernel) ⟨Nat.le_of_ble_eq_true rfl, Nat.le_of_ble_eq_true rfl⟩) (r_recv X.1 hH (by decide) rfl rfl) rfl rfl (Nat.le_of_ble_eq_true rfl) dX4_wantReferences_36 ⟨Nat.zero_le _, Nat.zero_le _⟩ (fun H locs hH => ?_)
      refine lv_iinc (v := x2 + 1) (lv' := [(2, .int (x2 + 1)), (0, .ref (adr Γ 4)), (1, .int x1)]) hx hb dX4_wantReferences_39 hl (k := 2) rfl rfl (by decide) rfl (fun ls hl => ?_)
      refine lv_goto (tgt := 13) hx hb dX4_wantReferences_42 (by decide) ?_
      exact ih σ110 (x2 + 1) h _ _ _ hH (lv_sub hl [1, 2, 0] rfl)
/-- CutoffMill$Names.wantReferences(I)V -/
def m_X4_wantReferences (σ : Sg) (x1 : Int32) : Option Sg := bnd (m_X8_isDeclared σ 0 x1) (fun r102 => if r102 = 0 then some σ else m_X4_wantReferences_13 x1 1000 σ 0)
set_option maxHeartbeats 4000000 in
set_option maxRecDepth 100000 in
theorem c_X4_wantReferences (l : Launch) {Γ : GG} (hJ : IJ Γ) (σ : Sg) (x1 : Int32) (σf : Sg) (rf : Unit) (h : m_X4_wantReferences σ x1 = some σf) : CV l yX4_wantReferences (wy yX4_wantReferences cX4_wantReferences 3 none) { frames := 2, cells := 0, slots := 0, locals := 45 } Γ σ [.ref (adr Γ 4), .int x1] σf rf := by
  refine met_of (by decide +kernel) hJ (Nat.le_of_ble_eq_true rfl) (fun p e s m below meth c ls X hH hl => ?_)
  have hl : lv_has ls 3 [(0, .ref (adr Γ 4)), (1, .int x1)] := hl
  have hx := X.1.1
  have hb := X.1.2.1
  rw [m_X4_wantReferences] at h
  refine lv_aload_n hx hb dX4_wantReferences_0 rfl (lv_at hl 0 rfl) ?_
  refine r_get X.1 hH (by decide) rfl rfl inlX4 0 (by decide) (v := .ref (adr Γ (kT 0))) rfl mw_47 dX4_wantReferences_1 ?_
  refine lv_iload_n hx hb dX4_wantReferences_4 rfl (lv_at hl 1 rfl) ?_
  obtain ⟨r102, hq101, h⟩ := bnd_some h
  refine r_callVI X.1 hl hH (As := [.int x1]) (rest := []) (c_X8_isDeclared l X.1.2.2.2.2.2.2.1 σ 0 (by omega) x1 _ hq101) (cw_V X.1 1 mw_193 mw_190 mw_191 mw_192 mw_12 rfl rfl (by decide +kernel) ⟨Nat.le_of_ble_eq_true rfl, Nat.le_of_ble_eq_true rfl⟩) (r_recv X.1 hH (kT_lt (by omega)) (dT0 _ (by omega)) rfl) rfl rfl (Nat.le_of_ble_eq_true rfl) dX4_wantReferences_5 ⟨Nat.zero_le _, Nat.zero_le _⟩ (fun H locs hH => ?_)
  refine lv_if_eq (tgt := 45) hx hb dX4_wantReferences_8 (by decide) (fun hc => ?_) (fun hc => ?_)
  · replace h := if_t h hc
    cases h
    exact e_void (v := rf) X hH dX4_wantReferences_45
  · replace h := if_f h hc
    refine lv_iconst (v := 0) hx hb dX4_wantReferences_11 (by decide) ?_
    refine lv_istore_n (lv' := [(2, .int 0), (0, .ref (adr Γ 4)), (1, .int x1)]) hx hb dX4_wantReferences_12 rfl hl (by decide) rfl (fun ls hl => ?_)
    exact b_X4_wantReferences_13 (rf := ()) X x1  1000 σ 0 h _ _ _ hH (lv_sub hl [1, 2, 0] rfl)
def m_X4_settle_18   : Nat → Sg → Int32 → Option Sg
  | 0, _, _ => none
  | n + 1, σ, x1 => if ((σ.1 29 0 0) * (16 : Int32)) ≤ x1 then some σ else bnd (m_X8_isDeclared σ 0 x1) (fun r111 => if r111 = 0 then chk (inb x1 128) (chk (inb (x1 / (16 : Int32)) 8) (bnd (m_X4_broughtTo σ x1 (σ.1 9 0 x1.toNatClampNeg) (σ.1 11 0 (x1 / (16 : Int32)).toNatClampNeg)) (fun r116 => chk (inb x1 128) (st (wI σ 7 0 x1.toNatClampNeg r116) (fun σ119 => bnd (m_X4_wantReferences σ119 x1) (fun σ123 => m_X4_settle_18  n σ123 (x1 + 1))))))) else chk (inb x1 128) (st (wI σ 7 0 x1.toNatClampNeg x1) (fun σ125 => bnd (m_X4_wantReferences σ125 x1) (fun σ129 => m_X4_settle_18  n σ129 (x1 + 1)))))
set_option maxHeartbeats 4000000 in
set_option maxRecDepth 100000 in
theorem b_X4_settle_18 {p : Program} {l : Launch} {e : Env} {s : State} {m : MethodId} {args : Array Value} {below : List Frame} {meth : Method} {c : Code} {Γ : GG} (X : MB Γ p s m args meth c cX4_settle 2 RX4 none) {σf : Sg} {rf : Unit}  : ∀ (n : Nat), (∀ (σ : Sg) (x1 : Int32), (m_X4_settle_18  n) σ x1 = some σf → ∀ (H : Heap) (locs : List Loc) (ls : Array Slot), HW (IA Γ) Γ σ s.heap H locs → lv_has ls 2 [(0, .ref (adr Γ 4)), (1, .int x1)] → W p l e ({ frames := 4, cells := 0, slots := 0, locals := 91 } : Room) s m args below meth c H locs 0 0 (QV Γ σf rf below args s) (F0 m 18 ls [])) := by
  have hx := X.1.1
  have hb := X.1.2.1
  intro n
  induction n with
  | zero => intro σ x1 h; rw [m_X4_settle_18] at h; cases h
  | succ n ih =>
    intro σ x1 h H locs ls hH hl
    rw [m_X4_settle_18] at h
    refine lv_iload_n hx hb dX4_settle_18 rfl (lv_at hl 1 rfl) ?_
    refine lv_aload_n hx hb dX4_settle_19 rfl (lv_at hl 0 rfl) ?_
    refine r_get X.1 hH (by decide) rfl rfl inlX4 0 (by decide) (v := .ref (adr Γ (kT 0))) rfl mw_47 dX4_settle_20 ?_
    refine r_get X.1 hH (kT_lt (by omega)) (dT0 _ (by omega)) rfl inlX8 3 (by decide) (v := .int (σ.1 29 0 0)) rfl mw_146 dX4_settle_23 ?_
    refine lv_bipush (v := 16) hx hb dX4_settle_26 (by decide) ?_
    refine lv_imul hx hb dX4_settle_28 ?_
    refine lv_icmp_ge (tgt := 84) hx hb dX4_settle_29 (by decide) (fun hc => ?_) (fun hc => ?_)
    · replace h := if_t h hc
      cases h
      exact e_void (v := rf) X hH dX4_settle_84
    · replace h := if_f h hc
      refine lv_aload_n hx hb dX4_settle_32 rfl (lv_at hl 0 rfl) ?_
      refine r_get X.1 hH (by decide) rfl rfl inlX4 2 (by decide) (v := .ref (adr Γ 6)) rfl mw_41 dX4_settle_33 ?_
      refine lv_iload_n hx hb dX4_settle_36 rfl (lv_at hl 1 rfl) ?_
      refine lv_aload_n hx hb dX4_settle_37 rfl (lv_at hl 0 rfl) ?_
      refine r_get X.1 hH (by decide) rfl rfl inlX4 0 (by decide) (v := .ref (adr Γ (kT 0))) rfl mw_47 dX4_settle_38 ?_
      refine lv_iload_n hx hb dX4_settle_41 rfl (lv_at hl 1 rfl) ?_
      obtain ⟨r111, hq110, h⟩ := bnd_some h
      refine r_callVI X.1 hl hH (As := [.int x1]) (rest := [.int x1, .ref (adr Γ 6)]) (c_X8_isDeclared l X.1.2.2.2.2.2.2.1 σ 0 (by omega) x1 _ hq110) (cw_V X.1 1 mw_193 mw_190 mw_191 mw_192 mw_12 rfl rfl (by decide +kernel) ⟨Nat.le_of_ble_eq_true rfl, Nat.le_of_ble_eq_true rfl⟩) (r_recv X.1 hH (kT_lt (by omega)) (dT0 _ (by omega)) rfl) rfl rfl (Nat.le_of_ble_eq_true rfl) dX4_settle_42 ⟨Nat.zero_le _, Nat.zero_le _⟩ (fun H locs hH => ?_)
      refine lv_if_eq (tgt := 52) hx hb dX4_settle_45 (by decide) (fun hc => ?_) (fun hc => ?_)
      · replace h := if_t h hc
        refine lv_aload_n hx hb dX4_settle_52 rfl (lv_at hl 0 rfl) ?_
        refine lv_iload_n hx hb dX4_settle_53 rfl (lv_at hl 1 rfl) ?_
        refine lv_aload_n hx hb dX4_settle_54 rfl (lv_at hl 0 rfl) ?_
        refine r_get X.1 hH (by decide) rfl rfl inlX4 4 (by decide) (v := .ref (adr Γ 8)) rfl mw_43 dX4_settle_55 ?_
        refine lv_iload_n hx hb dX4_settle_58 rfl (lv_at hl 1 rfl) ?_
        obtain ⟨hg113, h⟩ := chk_some h
        refine r_ild X.1 hH (by decide) rfl hg113 dX4_settle_59 ?_
        refine lv_aload_n hx hb dX4_settle_60 rfl (lv_at hl 0 rfl) ?_
        refine r_get X.1 hH (by decide) rfl rfl inlX4 6 (by decide) (v := .ref (adr Γ 10)) rfl mw_45 dX4_settle_61 ?_
        refine lv_iload_n hx hb dX4_settle_64 rfl (lv_at hl 1 rfl) ?_
        refine lv_bipush (v := 16) hx hb dX4_settle_65 (by decide) ?_
        refine lv_idiv hx hb dX4_settle_67 (by decide) ?_
        obtain ⟨hg114, h⟩ := chk_some h
        refine r_ild X.1 hH (by decide) rfl hg114 dX4_settle_68 ?_
        obtain ⟨r116, hq115, h⟩ := bnd_some h
        refine r_callVI X.1 hl hH (As := [.int x1, .int (σ.1 9 0 x1.toNatClampNeg), .int (σ.1 11 0 (x1 / (16 : Int32)).toNatClampNeg)]) (rest := [.int x1, .ref (adr Γ 6)]) (c_X4_broughtTo l X.1.2.2.2.2.2.2.1 σ x1 (σ.1 9 0 x1.toNatClampNeg) (σ.1 11 0 (x1 / (16 : Int32)).toNatClampNeg) _ hq115) (cw_V X.1 3 mw_201 mw_198 mw_199 mw_200 mw_16 rfl rfl (by decide +kernel) ⟨Nat.le_of_ble_eq_true rfl, Nat.le_of_ble_eq_true rfl⟩) (r_recv X.1 hH (by decide) rfl rfl) rfl rfl (Nat.le_of_ble_eq_true rfl) dX4_settle_69 ⟨Nat.zero_le _, Nat.zero_le _⟩ (fun H locs hH => ?_)
        obtain ⟨hg118, h⟩ := chk_some h
        obtain ⟨σ119, e120, h⟩ := st_some h
        refine r_ist X.1 hH (by decide) rfl hg118 dX4_settle_72 (fun H locs hH => ?_)
        replace hH : HW (IA Γ) Γ σ119 s.heap H locs := by rw [e120]; exact hH
        refine lv_aload_n hx hb dX4_settle_73 rfl (lv_at hl 0 rfl) ?_
        refine lv_iload_n hx hb dX4_settle_74 rfl (lv_at hl 1 rfl) ?_
        obtain ⟨σ123, hq121, h⟩ := bnd_some h
        refine r_callVV X.1 hl hH (r := ()) (As := [.int x1]) (rest := []) (c_X4_wantReferences l X.1.2.2.2.2.2.2.1 σ119 x1 _ () hq121) (cw_V X.1 1 mw_211 mw_208 mw_209 mw_210 mw_16 rfl rfl (by decide +kernel) ⟨Nat.le_of_ble_eq_true rfl, Nat.le_of_ble_eq_true rfl⟩) (r_recv X.1 hH (by decide) rfl rfl) rfl rfl (Nat.le_of_ble_eq_true rfl) dX4_settle_75 ⟨Nat.zero_le _, Nat.zero_le _⟩ (fun H locs hH => ?_)
        refine lv_iinc (v := x1 + 1) (lv' := [(1, .int (x1 + 1)), (0, .ref (adr Γ 4))]) hx hb dX4_settle_78 hl (k := 1) rfl rfl (by decide) rfl (fun ls hl => ?_)
        refine lv_goto (tgt := 18) hx hb dX4_settle_81 (by decide) ?_
        exact ih σ123 (x1 + 1) h _ _ _ hH (lv_sub hl [1, 0] rfl)
      · replace h := if_f h hc
        refine lv_iload_n hx hb dX4_settle_48 rfl (lv_at hl 1 rfl) ?_
        refine lv_goto (tgt := 72) hx hb dX4_settle_49 (by decide) ?_
        obtain ⟨hg124, h⟩ := chk_some h
        obtain ⟨σ125, e126, h⟩ := st_some h
        refine r_ist X.1 hH (by decide) rfl hg124 dX4_settle_72 (fun H locs hH => ?_)
        replace hH : HW (IA Γ) Γ σ125 s.heap H locs := by rw [e126]; exact hH
        refine lv_aload_n hx hb dX4_settle_73 rfl (lv_at hl 0 rfl) ?_
        refine lv_iload_n hx hb dX4_settle_74 rfl (lv_at hl 1 rfl) ?_
        obtain ⟨σ129, hq127, h⟩ := bnd_some h
        refine r_callVV X.1 hl hH (r := ()) (As := [.int x1]) (rest := []) (c_X4_wantReferences l X.1.2.2.2.2.2.2.1 σ125 x1 _ () hq127) (cw_V X.1 1 mw_211 mw_208 mw_209 mw_210 mw_16 rfl rfl (by decide +kernel) ⟨Nat.le_of_ble_eq_true rfl, Nat.le_of_ble_eq_true rfl⟩) (r_recv X.1 hH (by decide) rfl rfl) rfl rfl (Nat.le_of_ble_eq_true rfl) dX4_settle_75 ⟨Nat.zero_le _, Nat.zero_le _⟩ (fun H locs hH => ?_)
        refine lv_iinc (v := x1 + 1) (lv' := [(1, .int (x1 + 1)), (0, .ref (adr Γ 4))]) hx hb dX4_settle_78 hl (k := 1) rfl rfl (by decide) rfl (fun ls hl => ?_)
        refine lv_goto (tgt := 18) hx hb dX4_settle_81 (by decide) ?_
        exact ih σ129 (x1 + 1) h _ _ _ hH (lv_sub hl [1, 0] rfl)
/-- CutoffMill$Names.settle()V -/
def m_X4_settle (σ : Sg)  : Option Sg := bnd (m_X4_settleImports σ) (fun σ103 => bnd (m_X4_settleOutside σ103) (fun σ106 => bnd (m_J7_fill_53178 σ106 8 0 64 0) (fun σ109 => m_X4_settle_18  1000 σ109 0)))
set_option maxHeartbeats 4000000 in
set_option maxRecDepth 100000 in
theorem c_X4_settle (l : Launch) {Γ : GG} (hJ : IJ Γ) (σ : Sg)  (σf : Sg) (rf : Unit) (h : m_X4_settle σ  = some σf) : CV l yX4_settle (wy yX4_settle cX4_settle 2 none) { frames := 4, cells := 0, slots := 0, locals := 91 } Γ σ [.ref (adr Γ 4)] σf rf := by
  refine met_of (by decide +kernel) hJ (Nat.le_of_ble_eq_true rfl) (fun p e s m below meth c ls X hH hl => ?_)
  have hl : lv_has ls 2 [(0, .ref (adr Γ 4))] := hl
  have hx := X.1.1
  have hb := X.1.2.1
  rw [m_X4_settle] at h
  refine lv_aload_n hx hb dX4_settle_0 rfl (lv_at hl 0 rfl) ?_
  obtain ⟨σ103, hq101, h⟩ := bnd_some h
  refine r_callVV X.1 hl hH (r := ()) (As := []) (rest := []) (c_X4_settleImports l X.1.2.2.2.2.2.2.1 σ  _ () hq101) (cw_V X.1 0 mw_150 mw_147 mw_148 mw_149 mw_16 rfl rfl (by decide +kernel) ⟨Nat.le_of_ble_eq_true rfl, Nat.le_of_ble_eq_true rfl⟩) (r_recv X.1 hH (by decide) rfl rfl) rfl rfl (Nat.le_of_ble_eq_true rfl) dX4_settle_1 ⟨Nat.zero_le _, Nat.zero_le _⟩ (fun H locs hH => ?_)
  refine lv_aload_n hx hb dX4_settle_4 rfl (lv_at hl 0 rfl) ?_
  obtain ⟨σ106, hq104, h⟩ := bnd_some h
  refine r_callVV X.1 hl hH (r := ()) (As := []) (rest := []) (c_X4_settleOutside l X.1.2.2.2.2.2.2.1 σ103  _ () hq104) (cw_V X.1 0 mw_184 mw_181 mw_182 mw_183 mw_16 rfl rfl (by decide +kernel) ⟨Nat.le_of_ble_eq_true rfl, Nat.le_of_ble_eq_true rfl⟩) (r_recv X.1 hH (by decide) rfl rfl) rfl rfl (Nat.le_of_ble_eq_true rfl) dX4_settle_5 ⟨Nat.zero_le _, Nat.zero_le _⟩ (fun H locs hH => ?_)
  refine lv_aload_n hx hb dX4_settle_8 rfl (lv_at hl 0 rfl) ?_
  refine r_get X.1 hH (by decide) rfl rfl inlX4 3 (by decide) (v := .ref (adr Γ 7)) rfl mw_42 dX4_settle_9 ?_
  refine lv_iconst (v := 0) hx hb dX4_settle_12 (by decide) ?_
  obtain ⟨σ109, hq107, h⟩ := bnd_some h
  refine r_callSV X.1 hl hH (r := ()) (As := [.ref (adr Γ 7), .int 0]) (rest := []) (c_J7_fill_53178 l X.1.2.2.2.2.2.2.1 σ106 8 0 64 7 (by decide) rfl 0 _ () hq107) (cw_S X.1 2 mw_155 mw_152 mw_153 mw_154 rfl rfl (by decide +kernel) ⟨Nat.le_of_ble_eq_true rfl, Nat.le_of_ble_eq_true rfl⟩) rfl rfl (Nat.le_of_ble_eq_true rfl) dX4_settle_13 ⟨Nat.zero_le _, Nat.zero_le _⟩ (fun H locs hH => ?_)
  refine lv_iconst (v := 0) hx hb dX4_settle_16 (by decide) ?_
  refine lv_istore_n (lv' := [(1, .int 0), (0, .ref (adr Γ 4))]) hx hb dX4_settle_17 rfl hl (by decide) rfl (fun ls hl => ?_)
  exact b_X4_settle_18 (rf := ()) X   1000 σ109 0 h _ _ _ hH (lv_sub hl [1, 0] rfl)
def m_X6_settleLeaning_110  (k97 : Sg → Int32 → Option Sg) : Nat → Sg → Int32 → Int32 → Option Sg
  | 0, _, _, _ => none
  | n + 1, σ, x1, x2 => if (σ.1 29 0 0) ≤ x2 then k97 σ (x1 + 1) else chk (inb x2 8) (bnd (m_X6_has σ (σ.1 14 0 x2.toNatClampNeg) x1) (fun r103 => if r103 = 0 then m_X6_settleLeaning_110  k97 n σ x1 (x2 + 1) else chk (inb x2 8) (chk (inb x1 8) (chk (inb x2 8) (st (wI σ 14 0 x2.toNatClampNeg ((σ.1 14 0 x2.toNatClampNeg) ||| (σ.1 14 0 x1.toNatClampNeg))) (fun σ108 => m_X6_settleLeaning_110  k97 n σ108 x1 (x2 + 1)))))))
set_option maxHeartbeats 4000000 in
set_option maxRecDepth 100000 in
theorem b_X6_settleLeaning_110 {p : Program} {l : Launch} {e : Env} {s : State} {m : MethodId} {args : Array Value} {below : List Frame} {meth : Method} {c : Code} {Γ : GG} (X : MB Γ p s m args meth c cX6_settleLeaning 4 RX6 none) {σf : Sg} {rf : Unit}  (k97 : Sg → Int32 → Option Sg) (hk97 : (∀ (σ : Sg) (x1 : Int32), k97 σ x1 = some σf → ∀ (H : Heap) (locs : List Loc) (ls : Array Slot), HW (IA Γ) Γ σ s.heap H locs → lv_has ls 4 [(0, .ref (adr Γ 12)), (1, .int x1)] → W p l e ({ frames := 1, cells := 0, slots := 0, locals := 22 } : Room) s m args below meth c H locs 0 0 (QV Γ σf rf below args s) (F0 m 97 ls []))) : ∀ (n : Nat), (∀ (σ : Sg) (x1 : Int32) (x2 : Int32), (m_X6_settleLeaning_110  k97 n) σ x1 x2 = some σf → ∀ (H : Heap) (locs : List Loc) (ls : Array Slot), HW (IA Γ) Γ σ s.heap H locs → lv_has ls 4 [(0, .ref (adr Γ 12)), (1, .int x1), (2, .int x2)] → W p l e ({ frames := 1, cells := 0, slots := 0, locals := 22 } : Room) s m args below meth c H locs 0 0 (QV Γ σf rf below args s) (F0 m 110 ls [])) := by
  have hx := X.1.1
  have hb := X.1.2.1
  intro n
  induction n with
  | zero => intro σ x1 x2 h; rw [m_X6_settleLeaning_110] at h; cases h
  | succ n ih =>
    intro σ x1 x2 h H locs ls hH hl
    rw [m_X6_settleLeaning_110] at h
    refine lv_iload_n hx hb dX6_settleLeaning_110 rfl (lv_at hl 2 rfl) ?_
    refine lv_aload_n hx hb dX6_settleLeaning_111 rfl (lv_at hl 0 rfl) ?_
    refine r_get X.1 hH (by decide) rfl rfl inlX6 0 (by decide) (v := .ref (adr Γ (kT 0))) rfl mw_57 dX6_settleLeaning_112 ?_
    refine r_get X.1 hH (kT_lt (by omega)) (dT0 _ (by omega)) rfl inlX8 3 (by decide) (v := .int (σ.1 29 0 0)) rfl mw_223 dX6_settleLeaning_115 ?_
    refine lv_icmp_ge (tgt := 155) hx hb dX6_settleLeaning_118 (by decide) (fun hc => ?_) (fun hc => ?_)
    · replace h := if_t h hc
      refine lv_iinc (v := x1 + 1) (lv' := [(1, .int (x1 + 1)), (0, .ref (adr Γ 12)), (2, .int x2)]) hx hb dX6_settleLeaning_155 hl (k := 1) rfl rfl (by decide) rfl (fun ls hl => ?_)
      refine lv_goto (tgt := 97) hx hb dX6_settleLeaning_158 (by decide) ?_
      exact hk97 σ (x1 + 1) h _ _ _ hH (lv_sub hl [1, 0] rfl)
    · replace h := if_f h hc
      refine lv_aload_n hx hb dX6_settleLeaning_121 rfl (lv_at hl 0 rfl) ?_
      refine r_get X.1 hH (by decide) rfl rfl inlX6 2 (by decide) (v := .ref (adr Γ 14)) rfl mw_53 dX6_settleLeaning_122 ?_
      refine lv_iload_n hx hb dX6_settleLeaning_125 rfl (lv_at hl 2 rfl) ?_
      obtain ⟨hg101, h⟩ := chk_some h
      refine r_ild X.1 hH (by decide) rfl hg101 dX6_settleLeaning_126 ?_
      refine lv_iload_n hx hb dX6_settleLeaning_127 rfl (lv_at hl 1 rfl) ?_
      obtain ⟨r103, hq102, h⟩ := bnd_some h
      refine r_callSI X.1 hl hH (As := [.int (σ.1 14 0 x2.toNatClampNeg), .int x1]) (rest := []) (c_X6_has l X.1.2.2.2.2.2.2.1 σ (σ.1 14 0 x2.toNatClampNeg) x1 _ hq102) (cw_S X.1 2 mw_204 mw_231 mw_203 mw_20 rfl rfl (by decide +kernel) ⟨Nat.le_of_ble_eq_true rfl, Nat.le_of_ble_eq_true rfl⟩) rfl rfl (Nat.le_of_ble_eq_true rfl) dX6_settleLeaning_128 ⟨Nat.zero_le _, Nat.zero_le _⟩ (fun H locs hH => ?_)
      refine lv_if_eq (tgt := 149) hx hb dX6_settleLeaning_131 (by decide) (fun hc => ?_) (fun hc => ?_)
      · replace h := if_t h hc
        refine lv_iinc (v := x2 + 1) (lv' := [(2, .int (x2 + 1)), (0, .ref (adr Γ 12)), (1, .int x1)]) hx hb dX6_settleLeaning_149 hl (k := 2) rfl rfl (by decide) rfl (fun ls hl => ?_)
        refine lv_goto (tgt := 110) hx hb dX6_settleLeaning_152 (by decide) ?_
        exact ih σ x1 (x2 + 1) h _ _ _ hH (lv_sub hl [1, 2, 0] rfl)
      · replace h := if_f h hc
        refine lv_aload_n hx hb dX6_settleLeaning_134 rfl (lv_at hl 0 rfl) ?_
        refine r_get X.1 hH (by decide) rfl rfl inlX6 2 (by decide) (v := .ref (adr Γ 14)) rfl mw_53 dX6_settleLeaning_135 ?_
        refine lv_iload_n hx hb dX6_settleLeaning_138 rfl (lv_at hl 2 rfl) ?_
        refine lv_dup2_11 hx hb dX6_settleLeaning_139 rfl rfl ?_
        obtain ⟨hg105, h⟩ := chk_some h
        refine r_ild X.1 hH (by decide) rfl hg105 dX6_settleLeaning_140 ?_
        refine lv_aload_n hx hb dX6_settleLeaning_141 rfl (lv_at hl 0 rfl) ?_
        refine r_get X.1 hH (by decide) rfl rfl inlX6 2 (by decide) (v := .ref (adr Γ 14)) rfl mw_53 dX6_settleLeaning_142 ?_
        refine lv_iload_n hx hb dX6_settleLeaning_145 rfl (lv_at hl 1 rfl) ?_
        obtain ⟨hg106, h⟩ := chk_some h
        refine r_ild X.1 hH (by decide) rfl hg106 dX6_settleLeaning_146 ?_
        refine lv_ior hx hb dX6_settleLeaning_147 ?_
        obtain ⟨hg107, h⟩ := chk_some h
        obtain ⟨σ108, e109, h⟩ := st_some h
        refine r_ist X.1 hH (by decide) rfl hg107 dX6_settleLeaning_148 (fun H locs hH => ?_)
        replace hH : HW (IA Γ) Γ σ108 s.heap H locs := by rw [e109]; exact hH
        refine lv_iinc (v := x2 + 1) (lv' := [(2, .int (x2 + 1)), (0, .ref (adr Γ 12)), (1, .int x1)]) hx hb dX6_settleLeaning_149 hl (k := 2) rfl rfl (by decide) rfl (fun ls hl => ?_)
        refine lv_goto (tgt := 110) hx hb dX6_settleLeaning_152 (by decide) ?_
        exact ih σ108 x1 (x2 + 1) h _ _ _ hH (lv_sub hl [1, 2, 0] rfl)
def m_X6_settleLeaning_97   : Nat → Sg → Int32 → Option Sg
  | 0, _, _ => none
  | n + 1, σ, x1 => if (σ.1 29 0 0) ≤ x1 then some σ else m_X6_settleLeaning_110  (m_X6_settleLeaning_97  n) 1000 σ x1 0
set_option maxHeartbeats 4000000 in
set_option maxRecDepth 100000 in
theorem b_X6_settleLeaning_97 {p : Program} {l : Launch} {e : Env} {s : State} {m : MethodId} {args : Array Value} {below : List Frame} {meth : Method} {c : Code} {Γ : GG} (X : MB Γ p s m args meth c cX6_settleLeaning 4 RX6 none) {σf : Sg} {rf : Unit}  : ∀ (n : Nat), (∀ (σ : Sg) (x1 : Int32), (m_X6_settleLeaning_97  n) σ x1 = some σf → ∀ (H : Heap) (locs : List Loc) (ls : Array Slot), HW (IA Γ) Γ σ s.heap H locs → lv_has ls 4 [(0, .ref (adr Γ 12)), (1, .int x1)] → W p l e ({ frames := 1, cells := 0, slots := 0, locals := 22 } : Room) s m args below meth c H locs 0 0 (QV Γ σf rf below args s) (F0 m 97 ls [])) := by
  have hx := X.1.1
  have hb := X.1.2.1
  intro n
  induction n with
  | zero => intro σ x1 h; rw [m_X6_settleLeaning_97] at h; cases h
  | succ n ih =>
    intro σ x1 h H locs ls hH hl
    rw [m_X6_settleLeaning_97] at h
    refine lv_iload_n hx hb dX6_settleLeaning_97 rfl (lv_at hl 1 rfl) ?_
    refine lv_aload_n hx hb dX6_settleLeaning_98 rfl (lv_at hl 0 rfl) ?_
    refine r_get X.1 hH (by decide) rfl rfl inlX6 0 (by decide) (v := .ref (adr Γ (kT 0))) rfl mw_57 dX6_settleLeaning_99 ?_
    refine r_get X.1 hH (kT_lt (by omega)) (dT0 _ (by omega)) rfl inlX8 3 (by decide) (v := .int (σ.1 29 0 0)) rfl mw_223 dX6_settleLeaning_102 ?_
    refine lv_icmp_ge (tgt := 161) hx hb dX6_settleLeaning_105 (by decide) (fun hc => ?_) (fun hc => ?_)
    · replace h := if_t h hc
      cases h
      exact e_void (v := rf) X hH dX6_settleLeaning_161
    · replace h := if_f h hc
      refine lv_iconst (v := 0) hx hb dX6_settleLeaning_108 (by decide) ?_
      refine lv_istore_n (lv' := [(2, .int 0), (0, .ref (adr Γ 12)), (1, .int x1)]) hx hb dX6_settleLeaning_109 rfl hl (by decide) rfl (fun ls hl => ?_)
      exact b_X6_settleLeaning_110 (rf := ()) X  (m_X6_settleLeaning_97  n) ih 1000 σ x1 0 h _ _ _ hH (lv_sub hl [1, 2, 0] rfl)
def m_X6_settleLeaning_22  (k2 : Sg → Int32 → Option Sg) : Nat → Sg → Int32 → Int32 → Option Sg
  | 0, _, _, _ => none
  | n + 1, σ, x1, x2 => chk (inb x1 8) (if (σ.1 28 0 x1.toNatClampNeg) ≤ x2 then chk (inb x1 8) (chk (inb x1 8) (st (wI σ 14 0 x1.toNatClampNeg (σ.1 13 0 x1.toNatClampNeg)) (fun σ116 => k2 σ116 (x1 + 1)))) else bnd (m_X8_importAt σ 0 x1 x2) (fun r119 => bnd (m_X2_from σ r119) (fun r122 => if (σ.1 29 0 0) ≤ r122 then m_X6_settleLeaning_22  k2 n σ x1 (x2 + 1) else chk (inb x1 8) (chk (inb x1 8) (st (wI σ 13 0 x1.toNatClampNeg ((σ.1 13 0 x1.toNatClampNeg) ||| ((1 : Int32) <<< (r122 &&& 31)))) (fun σ126 => m_X6_settleLeaning_22  k2 n σ126 x1 (x2 + 1)))))))
set_option maxHeartbeats 4000000 in
set_option maxRecDepth 100000 in
theorem b_X6_settleLeaning_22 {p : Program} {l : Launch} {e : Env} {s : State} {m : MethodId} {args : Array Value} {below : List Frame} {meth : Method} {c : Code} {Γ : GG} (X : MB Γ p s m args meth c cX6_settleLeaning 4 RX6 none) {σf : Sg} {rf : Unit}  (k2 : Sg → Int32 → Option Sg) (hk2 : (∀ (σ : Sg) (x1 : Int32), k2 σ x1 = some σf → ∀ (H : Heap) (locs : List Loc) (ls : Array Slot), HW (IA Γ) Γ σ s.heap H locs → lv_has ls 4 [(0, .ref (adr Γ 12)), (1, .int x1)] → W p l e ({ frames := 1, cells := 0, slots := 0, locals := 22 } : Room) s m args below meth c H locs 0 0 (QV Γ σf rf below args s) (F0 m 2 ls []))) : ∀ (n : Nat), (∀ (σ : Sg) (x1 : Int32) (x2 : Int32), (m_X6_settleLeaning_22  k2 n) σ x1 x2 = some σf → ∀ (H : Heap) (locs : List Loc) (ls : Array Slot), HW (IA Γ) Γ σ s.heap H locs → lv_has ls 4 [(0, .ref (adr Γ 12)), (1, .int x1), (2, .int x2)] → W p l e ({ frames := 1, cells := 0, slots := 0, locals := 22 } : Room) s m args below meth c H locs 0 0 (QV Γ σf rf below args s) (F0 m 22 ls [])) := by
  have hx := X.1.1
  have hb := X.1.2.1
  intro n
  induction n with
  | zero => intro σ x1 x2 h; rw [m_X6_settleLeaning_22] at h; cases h
  | succ n ih =>
    intro σ x1 x2 h H locs ls hH hl
    rw [m_X6_settleLeaning_22] at h
    refine lv_iload_n hx hb dX6_settleLeaning_22 rfl (lv_at hl 2 rfl) ?_
    refine lv_aload_n hx hb dX6_settleLeaning_23 rfl (lv_at hl 0 rfl) ?_
    refine r_get X.1 hH (by decide) rfl rfl inlX6 0 (by decide) (v := .ref (adr Γ (kT 0))) rfl mw_57 dX6_settleLeaning_24 ?_
    refine r_get X.1 hH (kT_lt (by omega)) (dT0 _ (by omega)) rfl inlX8 2 (by decide) (v := .ref (adr Γ (kT 0 + 3))) rfl mw_228 dX6_settleLeaning_27 ?_
    refine lv_iload_n hx hb dX6_settleLeaning_30 rfl (lv_at hl 1 rfl) ?_
    obtain ⟨hg113, h⟩ := chk_some h
    refine r_ild X.1 hH (lT3 _ (by omega)) (dT3 _ (by omega)) hg113 dX6_settleLeaning_31 ?_
    refine lv_icmp_ge (tgt := 77) hx hb dX6_settleLeaning_32 (by decide) (fun hc => ?_) (fun hc => ?_)
    · replace h := if_t h hc
      refine lv_aload_n hx hb dX6_settleLeaning_77 rfl (lv_at hl 0 rfl) ?_
      refine r_get X.1 hH (by decide) rfl rfl inlX6 2 (by decide) (v := .ref (adr Γ 14)) rfl mw_53 dX6_settleLeaning_78 ?_
      refine lv_iload_n hx hb dX6_settleLeaning_81 rfl (lv_at hl 1 rfl) ?_
      refine lv_aload_n hx hb dX6_settleLeaning_82 rfl (lv_at hl 0 rfl) ?_
      refine r_get X.1 hH (by decide) rfl rfl inlX6 1 (by decide) (v := .ref (adr Γ 13)) rfl mw_52 dX6_settleLeaning_83 ?_
      refine lv_iload_n hx hb dX6_settleLeaning_86 rfl (lv_at hl 1 rfl) ?_
      obtain ⟨hg114, h⟩ := chk_some h
      refine r_ild X.1 hH (by decide) rfl hg114 dX6_settleLeaning_87 ?_
      obtain ⟨hg115, h⟩ := chk_some h
      obtain ⟨σ116, e117, h⟩ := st_some h
      refine r_ist X.1 hH (by decide) rfl hg115 dX6_settleLeaning_88 (fun H locs hH => ?_)
      replace hH : HW (IA Γ) Γ σ116 s.heap H locs := by rw [e117]; exact hH
      refine lv_iinc (v := x1 + 1) (lv' := [(1, .int (x1 + 1)), (0, .ref (adr Γ 12)), (2, .int x2)]) hx hb dX6_settleLeaning_89 hl (k := 1) rfl rfl (by decide) rfl (fun ls hl => ?_)
      refine lv_goto (tgt := 2) hx hb dX6_settleLeaning_92 (by decide) ?_
      exact hk2 σ116 (x1 + 1) h _ _ _ hH (lv_sub hl [1, 0] rfl)
    · replace h := if_f h hc
      refine lv_aload_n hx hb dX6_settleLeaning_35 rfl (lv_at hl 0 rfl) ?_
      refine r_get X.1 hH (by decide) rfl rfl inlX6 0 (by decide) (v := .ref (adr Γ (kT 0))) rfl mw_57 dX6_settleLeaning_36 ?_
      refine lv_iload_n hx hb dX6_settleLeaning_39 rfl (lv_at hl 1 rfl) ?_
      refine lv_iload_n hx hb dX6_settleLeaning_40 rfl (lv_at hl 2 rfl) ?_
      obtain ⟨r119, hq118, h⟩ := bnd_some h
      refine r_callVI X.1 hl hH (As := [.int x1, .int x2]) (rest := []) (c_X8_importAt l X.1.2.2.2.2.2.2.1 σ 0 (by omega) x1 x2 _ hq118) (cw_V X.1 2 mw_159 mw_229 mw_157 mw_158 mw_12 rfl rfl (by decide +kernel) ⟨Nat.le_of_ble_eq_true rfl, Nat.le_of_ble_eq_true rfl⟩) (r_recv X.1 hH (kT_lt (by omega)) (dT0 _ (by omega)) rfl) rfl rfl (Nat.le_of_ble_eq_true rfl) dX6_settleLeaning_41 ⟨Nat.zero_le _, Nat.zero_le _⟩ (fun H locs hH => ?_)
      obtain ⟨r122, hq121, h⟩ := bnd_some h
      refine r_callSI X.1 hl hH (As := [.int r119]) (rest := []) (c_X2_from l X.1.2.2.2.2.2.2.1 σ r119 _ hq121) (cw_S X.1 1 mw_173 mw_230 mw_172 mw_166 rfl rfl (by decide +kernel) ⟨Nat.le_of_ble_eq_true rfl, Nat.le_of_ble_eq_true rfl⟩) rfl rfl (Nat.le_of_ble_eq_true rfl) dX6_settleLeaning_44 ⟨Nat.zero_le _, Nat.zero_le _⟩ (fun H locs hH => ?_)
      refine lv_istore_n (lv' := [(3, .int r122), (0, .ref (adr Γ 12)), (1, .int x1), (2, .int x2)]) hx hb dX6_settleLeaning_47 rfl hl (by decide) rfl (fun ls hl => ?_)
      refine lv_iload_n hx hb dX6_settleLeaning_48 rfl (lv_at hl 0 rfl) ?_
      refine lv_aload_n hx hb dX6_settleLeaning_49 rfl (lv_at hl 1 rfl) ?_
      refine r_get X.1 hH (by decide) rfl rfl inlX6 0 (by decide) (v := .ref (adr Γ (kT 0))) rfl mw_57 dX6_settleLeaning_50 ?_
      refine r_get X.1 hH (kT_lt (by omega)) (dT0 _ (by omega)) rfl inlX8 3 (by decide) (v := .int (σ.1 29 0 0)) rfl mw_223 dX6_settleLeaning_53 ?_
      refine lv_icmp_ge (tgt := 71) hx hb dX6_settleLeaning_56 (by decide) (fun hc => ?_) (fun hc => ?_)
      · replace h := if_t h hc
        refine lv_iinc (v := x2 + 1) (lv' := [(2, .int (x2 + 1)), (3, .int r122), (0, .ref (adr Γ 12)), (1, .int x1)]) hx hb dX6_settleLeaning_71 hl (k := 3) rfl rfl (by decide) rfl (fun ls hl => ?_)
        refine lv_goto (tgt := 22) hx hb dX6_settleLeaning_74 (by decide) ?_
        exact ih σ x1 (x2 + 1) h _ _ _ hH (lv_sub hl [2, 3, 0] rfl)
      · replace h := if_f h hc
        refine lv_aload_n hx hb dX6_settleLeaning_59 rfl (lv_at hl 1 rfl) ?_
        refine r_get X.1 hH (by decide) rfl rfl inlX6 1 (by decide) (v := .ref (adr Γ 13)) rfl mw_52 dX6_settleLeaning_60 ?_
        refine lv_iload_n hx hb dX6_settleLeaning_63 rfl (lv_at hl 2 rfl) ?_
        refine lv_dup2_11 hx hb dX6_settleLeaning_64 rfl rfl ?_
        obtain ⟨hg124, h⟩ := chk_some h
        refine r_ild X.1 hH (by decide) rfl hg124 dX6_settleLeaning_65 ?_
        refine lv_iconst (v := 1) hx hb dX6_settleLeaning_66 (by decide) ?_
        refine lv_iload_n hx hb dX6_settleLeaning_67 rfl (lv_at hl 0 rfl) ?_
        refine lv_ishl hx hb dX6_settleLeaning_68 ?_
        refine lv_ior hx hb dX6_settleLeaning_69 ?_
        obtain ⟨hg125, h⟩ := chk_some h
        obtain ⟨σ126, e127, h⟩ := st_some h
        refine r_ist X.1 hH (by decide) rfl hg125 dX6_settleLeaning_70 (fun H locs hH => ?_)
        replace hH : HW (IA Γ) Γ σ126 s.heap H locs := by rw [e127]; exact hH
        refine lv_iinc (v := x2 + 1) (lv' := [(2, .int (x2 + 1)), (3, .int r122), (0, .ref (adr Γ 12)), (1, .int x1)]) hx hb dX6_settleLeaning_71 hl (k := 3) rfl rfl (by decide) rfl (fun ls hl => ?_)
        refine lv_goto (tgt := 22) hx hb dX6_settleLeaning_74 (by decide) ?_
        exact ih σ126 x1 (x2 + 1) h _ _ _ hH (lv_sub hl [2, 3, 0] rfl)
def m_X6_settleLeaning_2   : Nat → Sg → Int32 → Option Sg
  | 0, _, _ => none
  | n + 1, σ, x1 => if (σ.1 29 0 0) ≤ x1 then m_X6_settleLeaning_97  1000 σ 0 else chk (inb x1 8) (st (wI σ 13 0 x1.toNatClampNeg 0) (fun σ111 => m_X6_settleLeaning_22  (m_X6_settleLeaning_2  n) 1000 σ111 x1 0))
set_option maxHeartbeats 4000000 in
set_option maxRecDepth 100000 in
theorem b_X6_settleLeaning_2 {p : Program} {l : Launch} {e : Env} {s : State} {m : MethodId} {args : Array Value} {below : List Frame} {meth : Method} {c : Code} {Γ : GG} (X : MB Γ p s m args meth c cX6_settleLeaning 4 RX6 none) {σf : Sg} {rf : Unit}  : ∀ (n : Nat), (∀ (σ : Sg) (x1 : Int32), (m_X6_settleLeaning_2  n) σ x1 = some σf → ∀ (H : Heap) (locs : List Loc) (ls : Array Slot), HW (IA Γ) Γ σ s.heap H locs → lv_has ls 4 [(0, .ref (adr Γ 12)), (1, .int x1)] → W p l e ({ frames := 1, cells := 0, slots := 0, locals := 22 } : Room) s m args below meth c H locs 0 0 (QV Γ σf rf below args s) (F0 m 2 ls [])) := by
  have hx := X.1.1
  have hb := X.1.2.1
  intro n
  induction n with
  | zero => intro σ x1 h; rw [m_X6_settleLeaning_2] at h; cases h
  | succ n ih =>
    intro σ x1 h H locs ls hH hl
    rw [m_X6_settleLeaning_2] at h
    refine lv_iload_n hx hb dX6_settleLeaning_2 rfl (lv_at hl 1 rfl) ?_
    refine lv_aload_n hx hb dX6_settleLeaning_3 rfl (lv_at hl 0 rfl) ?_
    refine r_get X.1 hH (by decide) rfl rfl inlX6 0 (by decide) (v := .ref (adr Γ (kT 0))) rfl mw_57 dX6_settleLeaning_4 ?_
    refine r_get X.1 hH (kT_lt (by omega)) (dT0 _ (by omega)) rfl inlX8 3 (by decide) (v := .int (σ.1 29 0 0)) rfl mw_223 dX6_settleLeaning_7 ?_
    refine lv_icmp_ge (tgt := 95) hx hb dX6_settleLeaning_10 (by decide) (fun hc => ?_) (fun hc => ?_)
    · replace h := if_t h hc
      refine lv_iconst (v := 0) hx hb dX6_settleLeaning_95 (by decide) ?_
      refine lv_istore_n (lv' := [(1, .int 0), (0, .ref (adr Γ 12))]) hx hb dX6_settleLeaning_96 rfl hl (by decide) rfl (fun ls hl => ?_)
      exact b_X6_settleLeaning_97 (rf := ()) X   1000 σ 0 h _ _ _ hH (lv_sub hl [1, 0] rfl)
    · replace h := if_f h hc
      refine lv_aload_n hx hb dX6_settleLeaning_13 rfl (lv_at hl 0 rfl) ?_
      refine r_get X.1 hH (by decide) rfl rfl inlX6 1 (by decide) (v := .ref (adr Γ 13)) rfl mw_52 dX6_settleLeaning_14 ?_
      refine lv_iload_n hx hb dX6_settleLeaning_17 rfl (lv_at hl 1 rfl) ?_
      refine lv_iconst (v := 0) hx hb dX6_settleLeaning_18 (by decide) ?_
      obtain ⟨hg110, h⟩ := chk_some h
      obtain ⟨σ111, e112, h⟩ := st_some h
      refine r_ist X.1 hH (by decide) rfl hg110 dX6_settleLeaning_19 (fun H locs hH => ?_)
      replace hH : HW (IA Γ) Γ σ111 s.heap H locs := by rw [e112]; exact hH
      refine lv_iconst (v := 0) hx hb dX6_settleLeaning_20 (by decide) ?_
      refine lv_istore_n (lv' := [(2, .int 0), (0, .ref (adr Γ 12)), (1, .int x1)]) hx hb dX6_settleLeaning_21 rfl hl (by decide) rfl (fun ls hl => ?_)
      exact b_X6_settleLeaning_22 (rf := ()) X  (m_X6_settleLeaning_2  n) ih 1000 σ111 x1 0 h _ _ _ hH (lv_sub hl [1, 2, 0] rfl)
/-- CutoffMill$Rings.settleLeaning()V -/
def m_X6_settleLeaning (σ : Sg)  : Option Sg := m_X6_settleLeaning_2  1000 σ 0
set_option maxHeartbeats 4000000 in
set_option maxRecDepth 100000 in
theorem c_X6_settleLeaning (l : Launch) {Γ : GG} (hJ : IJ Γ) (σ : Sg)  (σf : Sg) (rf : Unit) (h : m_X6_settleLeaning σ  = some σf) : CV l yX6_settleLeaning (wy yX6_settleLeaning cX6_settleLeaning 4 none) { frames := 1, cells := 0, slots := 0, locals := 22 } Γ σ [.ref (adr Γ 12)] σf rf := by
  refine met_of (by decide +kernel) hJ (Nat.le_of_ble_eq_true rfl) (fun p e s m below meth c ls X hH hl => ?_)
  have hl : lv_has ls 4 [(0, .ref (adr Γ 12))] := hl
  have hx := X.1.1
  have hb := X.1.2.1
  rw [m_X6_settleLeaning] at h
  refine lv_iconst (v := 0) hx hb dX6_settleLeaning_0 (by decide) ?_
  refine lv_istore_n (lv' := [(1, .int 0), (0, .ref (adr Γ 12))]) hx hb dX6_settleLeaning_1 rfl hl (by decide) rfl (fun ls hl => ?_)
  exact b_X6_settleLeaning_2 (rf := ()) X   1000 σ 0 h _ _ _ hH (lv_sub hl [1, 0] rfl)
def m_X6_ringAround_6 (σ : Sg) (x1 : Int32)  : Nat → Int32 → Int32 → Option Int32
  | 0, _, _ => none
  | n + 1, x2, x3 => if (σ.1 29 0 0) ≤ x3 then some x2 else chk (inb x1 8) (bnd (m_X6_has σ (σ.1 14 0 x1.toNatClampNeg) x3) (fun r103 => if r103 = 0 then m_X6_ringAround_6 σ x1 n x2 (x3 + 1) else chk (inb x3 8) (bnd (m_X6_has σ (σ.1 14 0 x3.toNatClampNeg) x1) (fun r107 => if r107 = 0 then m_X6_ringAround_6 σ x1 n x2 (x3 + 1) else m_X6_ringAround_6 σ x1 n (x2 ||| ((1 : Int32) <<< (x3 &&& 31))) (x3 + 1)))))
set_option maxHeartbeats 4000000 in
set_option maxRecDepth 100000 in
theorem b_X6_ringAround_6 {p : Program} {l : Launch} {e : Env} {s : State} {m : MethodId} {args : Array Value} {below : List Frame} {meth : Method} {c : Code} {Γ : GG} (X : MB Γ p s m args meth c cX6_ringAround 4 RX6 (some .int)) (σ : Sg) {rf : Int32} (x1 : Int32) : ∀ (n : Nat), (∀ (x2 : Int32) (x3 : Int32), (m_X6_ringAround_6 σ x1 n) x2 x3 = some rf → ∀ (H : Heap) (locs : List Loc) (ls : Array Slot), HW (IA Γ) Γ σ s.heap H locs → lv_has ls 4 [(0, .ref (adr Γ 12)), (1, .int x1), (2, .int x2), (3, .int x3)] → W p l e ({ frames := 1, cells := 0, slots := 0, locals := 21 } : Room) s m args below meth c H locs 0 0 (QI Γ σ rf below args s) (F0 m 6 ls [])) := by
  have hx := X.1.1
  have hb := X.1.2.1
  intro n
  induction n with
  | zero => intro x2 x3 h; rw [m_X6_ringAround_6] at h; cases h
  | succ n ih =>
    intro x2 x3 h H locs ls hH hl
    rw [m_X6_ringAround_6] at h
    refine lv_iload_n hx hb dX6_ringAround_6 rfl (lv_at hl 3 rfl) ?_
    refine lv_aload_n hx hb dX6_ringAround_7 rfl (lv_at hl 0 rfl) ?_
    refine r_get X.1 hH (by decide) rfl rfl inlX6 0 (by decide) (v := .ref (adr Γ (kT 0))) rfl mw_57 dX6_ringAround_8 ?_
    refine r_get X.1 hH (kT_lt (by omega)) (dT0 _ (by omega)) rfl inlX8 3 (by decide) (v := .int (σ.1 29 0 0)) rfl mw_223 dX6_ringAround_11 ?_
    refine lv_icmp_ge (tgt := 55) hx hb dX6_ringAround_14 (by decide) (fun hc => ?_) (fun hc => ?_)
    · replace h := if_t h hc
      refine lv_iload_n hx hb dX6_ringAround_55 rfl (lv_at hl 2 rfl) ?_
      cases h
      exact e_int X hH rfl dX6_ringAround_56
    · replace h := if_f h hc
      refine lv_aload_n hx hb dX6_ringAround_17 rfl (lv_at hl 0 rfl) ?_
      refine r_get X.1 hH (by decide) rfl rfl inlX6 2 (by decide) (v := .ref (adr Γ 14)) rfl mw_53 dX6_ringAround_18 ?_
      refine lv_iload_n hx hb dX6_ringAround_21 rfl (lv_at hl 1 rfl) ?_
      obtain ⟨hg101, h⟩ := chk_some h
      refine r_ild X.1 hH (by decide) rfl hg101 dX6_ringAround_22 ?_
      refine lv_iload_n hx hb dX6_ringAround_23 rfl (lv_at hl 3 rfl) ?_
      obtain ⟨r103, hq102, h⟩ := bnd_some h
      refine r_callSI X.1 hl hH (As := [.int (σ.1 14 0 x1.toNatClampNeg), .int x3]) (rest := []) (c_X6_has l X.1.2.2.2.2.2.2.1 σ (σ.1 14 0 x1.toNatClampNeg) x3 _ hq102) (cw_S X.1 2 mw_204 mw_231 mw_203 mw_20 rfl rfl (by decide +kernel) ⟨Nat.le_of_ble_eq_true rfl, Nat.le_of_ble_eq_true rfl⟩) rfl rfl (Nat.le_of_ble_eq_true rfl) dX6_ringAround_24 ⟨Nat.zero_le _, Nat.zero_le _⟩ (fun H locs hH => ?_)
      refine lv_if_eq (tgt := 49) hx hb dX6_ringAround_27 (by decide) (fun hc => ?_) (fun hc => ?_)
      · replace h := if_t h hc
        refine lv_iinc (v := x3 + 1) (lv' := [(3, .int (x3 + 1)), (0, .ref (adr Γ 12)), (1, .int x1), (2, .int x2)]) hx hb dX6_ringAround_49 hl (k := 3) rfl rfl (by decide) rfl (fun ls hl => ?_)
        refine lv_goto (tgt := 6) hx hb dX6_ringAround_52 (by decide) ?_
        exact ih  x2 (x3 + 1) h _ _ _ hH (lv_sub hl [1, 2, 3, 0] rfl)
      · replace h := if_f h hc
        refine lv_aload_n hx hb dX6_ringAround_30 rfl (lv_at hl 0 rfl) ?_
        refine r_get X.1 hH (by decide) rfl rfl inlX6 2 (by decide) (v := .ref (adr Γ 14)) rfl mw_53 dX6_ringAround_31 ?_
        refine lv_iload_n hx hb dX6_ringAround_34 rfl (lv_at hl 3 rfl) ?_
        obtain ⟨hg105, h⟩ := chk_some h
        refine r_ild X.1 hH (by decide) rfl hg105 dX6_ringAround_35 ?_
        refine lv_iload_n hx hb dX6_ringAround_36 rfl (lv_at hl 1 rfl) ?_
        obtain ⟨r107, hq106, h⟩ := bnd_some h
        refine r_callSI X.1 hl hH (As := [.int (σ.1 14 0 x3.toNatClampNeg), .int x1]) (rest := []) (c_X6_has l X.1.2.2.2.2.2.2.1 σ (σ.1 14 0 x3.toNatClampNeg) x1 _ hq106) (cw_S X.1 2 mw_204 mw_231 mw_203 mw_20 rfl rfl (by decide +kernel) ⟨Nat.le_of_ble_eq_true rfl, Nat.le_of_ble_eq_true rfl⟩) rfl rfl (Nat.le_of_ble_eq_true rfl) dX6_ringAround_37 ⟨Nat.zero_le _, Nat.zero_le _⟩ (fun H locs hH => ?_)
        refine lv_if_eq (tgt := 49) hx hb dX6_ringAround_40 (by decide) (fun hc => ?_) (fun hc => ?_)
        · replace h := if_t h hc
          refine lv_iinc (v := x3 + 1) (lv' := [(3, .int (x3 + 1)), (0, .ref (adr Γ 12)), (1, .int x1), (2, .int x2)]) hx hb dX6_ringAround_49 hl (k := 3) rfl rfl (by decide) rfl (fun ls hl => ?_)
          refine lv_goto (tgt := 6) hx hb dX6_ringAround_52 (by decide) ?_
          exact ih  x2 (x3 + 1) h _ _ _ hH (lv_sub hl [1, 2, 3, 0] rfl)
        · replace h := if_f h hc
          refine lv_iload_n hx hb dX6_ringAround_43 rfl (lv_at hl 2 rfl) ?_
          refine lv_iconst (v := 1) hx hb dX6_ringAround_44 (by decide) ?_
          refine lv_iload_n hx hb dX6_ringAround_45 rfl (lv_at hl 3 rfl) ?_
          refine lv_ishl hx hb dX6_ringAround_46 ?_
          refine lv_ior hx hb dX6_ringAround_47 ?_
          refine lv_istore_n (lv' := [(2, .int (x2 ||| ((1 : Int32) <<< (x3 &&& 31)))), (0, .ref (adr Γ 12)), (1, .int x1), (3, .int x3)]) hx hb dX6_ringAround_48 rfl hl (by decide) rfl (fun ls hl => ?_)
          refine lv_iinc (v := x3 + 1) (lv' := [(3, .int (x3 + 1)), (2, .int (x2 ||| ((1 : Int32) <<< (x3 &&& 31)))), (0, .ref (adr Γ 12)), (1, .int x1)]) hx hb dX6_ringAround_49 hl (k := 3) rfl rfl (by decide) rfl (fun ls hl => ?_)
          refine lv_goto (tgt := 6) hx hb dX6_ringAround_52 (by decide) ?_
          exact ih  (x2 ||| ((1 : Int32) <<< (x3 &&& 31))) (x3 + 1) h _ _ _ hH (lv_sub hl [2, 3, 1, 0] rfl)
/-- CutoffMill$Rings.ringAround(I)I -/
def m_X6_ringAround (σ : Sg) (x1 : Int32) : Option Int32 := m_X6_ringAround_6 σ x1 1000 ((1 : Int32) <<< (x1 &&& 31)) 0
set_option maxHeartbeats 4000000 in
set_option maxRecDepth 100000 in
theorem c_X6_ringAround (l : Launch) {Γ : GG} (hJ : IJ Γ) (σ : Sg) (x1 : Int32) (rf : Int32) (h : m_X6_ringAround σ x1 = some rf) : CI l yX6_ringAround (wy yX6_ringAround cX6_ringAround 4 (some .int)) { frames := 1, cells := 0, slots := 0, locals := 21 } Γ σ [.ref (adr Γ 12), .int x1] σ rf := by
  refine met_of (by decide +kernel) hJ (Nat.le_of_ble_eq_true rfl) (fun p e s m below meth c ls X hH hl => ?_)
  have hl : lv_has ls 4 [(0, .ref (adr Γ 12)), (1, .int x1)] := hl
  have hx := X.1.1
  have hb := X.1.2.1
  rw [m_X6_ringAround] at h
  refine lv_iconst (v := 1) hx hb dX6_ringAround_0 (by decide) ?_
  refine lv_iload_n hx hb dX6_ringAround_1 rfl (lv_at hl 1 rfl) ?_
  refine lv_ishl hx hb dX6_ringAround_2 ?_
  refine lv_istore_n (lv' := [(2, .int ((1 : Int32) <<< (x1 &&& 31))), (0, .ref (adr Γ 12)), (1, .int x1)]) hx hb dX6_ringAround_3 rfl hl (by decide) rfl (fun ls hl => ?_)
  refine lv_iconst (v := 0) hx hb dX6_ringAround_4 (by decide) ?_
  refine lv_istore_n (lv' := [(3, .int 0), (2, .int ((1 : Int32) <<< (x1 &&& 31))), (0, .ref (adr Γ 12)), (1, .int x1)]) hx hb dX6_ringAround_5 rfl hl (by decide) rfl (fun ls hl => ?_)
  exact b_X6_ringAround_6 X σ x1  1000  ((1 : Int32) <<< (x1 &&& 31)) 0 h _ _ _ hH (lv_sub hl [2, 3, 1, 0] rfl)
def m_X6_nextBehind_2 (σ : Sg) (x1 : Int32)  : Nat → Int32 → Option Int32
  | 0, _ => none
  | n + 1, x2 => if (σ.1 29 0 0) ≤ x2 then some ((-1)) else chk (inb x2 8) (bnd (m_X6_has σ x1 x2) (fun r103 => if r103 = 0 then chk (inb x2 8) (if (((σ.1 14 0 x2.toNatClampNeg) &&& ((σ.1 15 0 x2.toNatClampNeg) ^^^ ((-1) : Int32))) &&& (x1 ^^^ ((-1) : Int32))) = 0 then some x2 else m_X6_nextBehind_2 σ x1 n (x2 + 1)) else m_X6_nextBehind_2 σ x1 n (x2 + 1)))
set_option maxHeartbeats 4000000 in
set_option maxRecDepth 100000 in
theorem b_X6_nextBehind_2 {p : Program} {l : Launch} {e : Env} {s : State} {m : MethodId} {args : Array Value} {below : List Frame} {meth : Method} {c : Code} {Γ : GG} (X : MB Γ p s m args meth c cX6_nextBehind 4 RX6 (some .int)) (σ : Sg) {rf : Int32} (x1 : Int32) : ∀ (n : Nat), (∀ (x2 : Int32), (m_X6_nextBehind_2 σ x1 n) x2 = some rf → ∀ (H : Heap) (locs : List Loc) (ls : Array Slot), HW (IA Γ) Γ σ s.heap H locs → lv_has ls 4 [(0, .ref (adr Γ 12)), (1, .int x1), (2, .int x2)] → W p l e ({ frames := 1, cells := 0, slots := 0, locals := 21 } : Room) s m args below meth c H locs 0 0 (QI Γ σ rf below args s) (F0 m 2 ls [])) := by
  have hx := X.1.1
  have hb := X.1.2.1
  intro n
  induction n with
  | zero => intro x2 h; rw [m_X6_nextBehind_2] at h; cases h
  | succ n ih =>
    intro x2 h H locs ls hH hl
    rw [m_X6_nextBehind_2] at h
    refine lv_iload_n hx hb dX6_nextBehind_2 rfl (lv_at hl 2 rfl) ?_
    refine lv_aload_n hx hb dX6_nextBehind_3 rfl (lv_at hl 0 rfl) ?_
    refine r_get X.1 hH (by decide) rfl rfl inlX6 0 (by decide) (v := .ref (adr Γ (kT 0))) rfl mw_57 dX6_nextBehind_4 ?_
    refine r_get X.1 hH (kT_lt (by omega)) (dT0 _ (by omega)) rfl inlX8 3 (by decide) (v := .int (σ.1 29 0 0)) rfl mw_223 dX6_nextBehind_7 ?_
    refine lv_icmp_ge (tgt := 53) hx hb dX6_nextBehind_10 (by decide) (fun hc => ?_) (fun hc => ?_)
    · replace h := if_t h hc
      refine lv_iconst (v := (-1)) hx hb dX6_nextBehind_53 (by decide) ?_
      cases h
      exact e_int X hH rfl dX6_nextBehind_54
    · replace h := if_f h hc
      refine lv_aload_n hx hb dX6_nextBehind_13 rfl (lv_at hl 0 rfl) ?_
      refine r_get X.1 hH (by decide) rfl rfl inlX6 3 (by decide) (v := .ref (adr Γ 15)) rfl mw_54 dX6_nextBehind_14 ?_
      refine lv_iload_n hx hb dX6_nextBehind_17 rfl (lv_at hl 2 rfl) ?_
      obtain ⟨hg101, h⟩ := chk_some h
      refine r_ild X.1 hH (by decide) rfl hg101 dX6_nextBehind_18 ?_
      refine lv_istore_n (lv' := [(3, .int (σ.1 15 0 x2.toNatClampNeg)), (0, .ref (adr Γ 12)), (1, .int x1), (2, .int x2)]) hx hb dX6_nextBehind_19 rfl hl (by decide) rfl (fun ls hl => ?_)
      refine lv_iload_n hx hb dX6_nextBehind_20 rfl (lv_at hl 2 rfl) ?_
      refine lv_iload_n hx hb dX6_nextBehind_21 rfl (lv_at hl 3 rfl) ?_
      obtain ⟨r103, hq102, h⟩ := bnd_some h
      refine r_callSI X.1 hl hH (As := [.int x1, .int x2]) (rest := []) (c_X6_has l X.1.2.2.2.2.2.2.1 σ x1 x2 _ hq102) (cw_S X.1 2 mw_204 mw_231 mw_203 mw_20 rfl rfl (by decide +kernel) ⟨Nat.le_of_ble_eq_true rfl, Nat.le_of_ble_eq_true rfl⟩) rfl rfl (Nat.le_of_ble_eq_true rfl) dX6_nextBehind_22 ⟨Nat.zero_le _, Nat.zero_le _⟩ (fun H locs hH => ?_)
      refine lv_if_ne (tgt := 47) hx hb dX6_nextBehind_25 (by decide) (fun hc => ?_) (fun hc => ?_)
      · replace h := if_f h hc
        refine lv_iinc (v := x2 + 1) (lv' := [(2, .int (x2 + 1)), (3, .int (σ.1 15 0 x2.toNatClampNeg)), (0, .ref (adr Γ 12)), (1, .int x1)]) hx hb dX6_nextBehind_47 hl (k := 3) rfl rfl (by decide) rfl (fun ls hl => ?_)
        refine lv_goto (tgt := 2) hx hb dX6_nextBehind_50 (by decide) ?_
        exact ih  (x2 + 1) h _ _ _ hH (lv_sub hl [2, 3, 0] rfl)
      · replace h := if_t h hc
        refine lv_aload_n hx hb dX6_nextBehind_28 rfl (lv_at hl 1 rfl) ?_
        refine r_get X.1 hH (by decide) rfl rfl inlX6 2 (by decide) (v := .ref (adr Γ 14)) rfl mw_53 dX6_nextBehind_29 ?_
        refine lv_iload_n hx hb dX6_nextBehind_32 rfl (lv_at hl 3 rfl) ?_
        obtain ⟨hg105, h⟩ := chk_some h
        refine r_ild X.1 hH (by decide) rfl hg105 dX6_nextBehind_33 ?_
        refine lv_iload_n hx hb dX6_nextBehind_34 rfl (lv_at hl 0 rfl) ?_
        refine lv_iconst (v := (-1)) hx hb dX6_nextBehind_35 (by decide) ?_
        refine lv_ixor hx hb dX6_nextBehind_36 ?_
        refine lv_iand hx hb dX6_nextBehind_37 ?_
        refine lv_iload_n hx hb dX6_nextBehind_38 rfl (lv_at hl 2 rfl) ?_
        refine lv_iconst (v := (-1)) hx hb dX6_nextBehind_39 (by decide) ?_
        refine lv_ixor hx hb dX6_nextBehind_40 ?_
        refine lv_iand hx hb dX6_nextBehind_41 ?_
        refine lv_if_ne (tgt := 47) hx hb dX6_nextBehind_42 (by decide) (fun hc => ?_) (fun hc => ?_)
        · replace h := if_f h hc
          refine lv_iinc (v := x2 + 1) (lv' := [(2, .int (x2 + 1)), (3, .int (σ.1 15 0 x2.toNatClampNeg)), (0, .ref (adr Γ 12)), (1, .int x1)]) hx hb dX6_nextBehind_47 hl (k := 3) rfl rfl (by decide) rfl (fun ls hl => ?_)
          refine lv_goto (tgt := 2) hx hb dX6_nextBehind_50 (by decide) ?_
          exact ih  (x2 + 1) h _ _ _ hH (lv_sub hl [2, 3, 0] rfl)
        · replace h := if_t h hc
          refine lv_iload_n hx hb dX6_nextBehind_45 rfl (lv_at hl 3 rfl) ?_
          cases h
          exact e_int X hH rfl dX6_nextBehind_46
/-- CutoffMill$Rings.nextBehind(I)I -/
def m_X6_nextBehind (σ : Sg) (x1 : Int32) : Option Int32 := m_X6_nextBehind_2 σ x1 1000 0
set_option maxHeartbeats 4000000 in
set_option maxRecDepth 100000 in
theorem c_X6_nextBehind (l : Launch) {Γ : GG} (hJ : IJ Γ) (σ : Sg) (x1 : Int32) (rf : Int32) (h : m_X6_nextBehind σ x1 = some rf) : CI l yX6_nextBehind (wy yX6_nextBehind cX6_nextBehind 4 (some .int)) { frames := 1, cells := 0, slots := 0, locals := 21 } Γ σ [.ref (adr Γ 12), .int x1] σ rf := by
  refine met_of (by decide +kernel) hJ (Nat.le_of_ble_eq_true rfl) (fun p e s m below meth c ls X hH hl => ?_)
  have hl : lv_has ls 4 [(0, .ref (adr Γ 12)), (1, .int x1)] := hl
  have hx := X.1.1
  have hb := X.1.2.1
  rw [m_X6_nextBehind] at h
  refine lv_iconst (v := 0) hx hb dX6_nextBehind_0 (by decide) ?_
  refine lv_istore_n (lv' := [(2, .int 0), (0, .ref (adr Γ 12)), (1, .int x1)]) hx hb dX6_nextBehind_1 rfl hl (by decide) rfl (fun ls hl => ?_)
  exact b_X6_nextBehind_2 X σ x1  1000  0 h _ _ _ hH (lv_sub hl [1, 2, 0] rfl)
