/-! WALKS, laid by wip/p23/gen.py: X3_isFaulty, X3_spreadFaults, X3_isNoCall, X1_numberOf, X3_numberWithTargets, X3_findPlain, X3_addCall, X3_findCalls -/
/-- CutoffMill$Maker.isFaulty(I)Z -/
def m_X3_isFaulty (σ : Sg) (i0 : Nat) (x1 : Int32) : Option Int32 := if x1 < 0 then some 0 else chk (inb (x1 / (16 : Int32)) (lenP 2 i0)) (bnd (σ.2.2 2 i0 (x1 / (16 : Int32)).toNatClampNeg) (fun r102 => chk (decide (r102 < 30)) (chk (inb x1 128) (if (σ.1 31 r102 x1.toNatClampNeg) = 0 then some 0 else some 1))))
set_option maxHeartbeats 4000000 in
set_option maxRecDepth 100000 in
theorem c_X3_isFaulty (l : Launch) {Γ : GG} (hJ : IJ Γ) (σ : Sg) (i0 : Nat) (hi0 : i0 < 2) (x1 : Int32) (rf : Int32) (h : m_X3_isFaulty σ i0 x1 = some rf) : CI l yX3_isFaulty (wy yX3_isFaulty cX3_isFaulty 2 (some .boolean)) { frames := 0, cells := 0, slots := 0, locals := 0 } Γ σ [.ref (adr Γ (kW i0 + 5)), .int x1] σ rf := by
  refine met_of (by decide +kernel) hJ (Nat.le_of_ble_eq_true rfl) (fun p e s m below meth c ls X hH hl => ?_)
  have hl : lv_has ls 2 [(0, .ref (adr Γ (kW i0 + 5))), (1, .int x1)] := hl
  have hx := X.1.1
  have hb := X.1.2.1
  rw [m_X3_isFaulty] at h
  refine lv_iload_n hx hb dX3_isFaulty_0 rfl (lv_at hl 1 rfl) ?_
  refine lv_if_lt (tgt := 25) hx hb dX3_isFaulty_1 (by decide) (fun hc => ?_) (fun hc => ?_)
  · replace h := if_t h hc
    refine lv_iconst (v := 0) hx hb dX3_isFaulty_25 (by decide) ?_
    cases h
    exact e_int X hH rfl dX3_isFaulty_26
  · replace h := if_f h hc
    refine lv_aload_n hx hb dX3_isFaulty_4 rfl (lv_at hl 0 rfl) ?_
    refine r_get X.1 hH (lW _ hi0 5 (by decide)) (dW5 _ hi0) rfl inlX3 1 (by decide) (v := .ref (adr Γ (kW i0 + 6))) rfl mw_115 dX3_isFaulty_5 ?_
    refine lv_iload_n hx hb dX3_isFaulty_8 rfl (lv_at hl 1 rfl) ?_
    refine lv_bipush (v := 16) hx hb dX3_isFaulty_9 (by decide) ?_
    refine lv_idiv hx hb dX3_isFaulty_11 (by decide) ?_
    obtain ⟨hg101, h⟩ := chk_some h
    obtain ⟨r102, he103, h⟩ := bnd_some h
    obtain ⟨hr102, h⟩ := chk_some h
    replace hr102 := of_decide_eq_true hr102
    refine r_ald X.1 hH (lW _ hi0 6 (by decide)) (dW6 _ hi0) hg101 he103 dX3_isFaulty_12 ?_
    refine r_get X.1 hH (kR_lt hr102) (dR0 _ hr102) rfl inlX5 4 (by decide) (v := .ref (adr Γ (kR r102 + 3))) rfl mw_446 dX3_isFaulty_13 ?_
    refine lv_iload_n hx hb dX3_isFaulty_16 rfl (lv_at hl 1 rfl) ?_
    obtain ⟨hg104, h⟩ := chk_some h
    refine r_ild X.1 hH (lR _ hr102 3 (by decide)) (dR3 _ hr102) hg104 dX3_isFaulty_17 ?_
    refine lv_if_eq (tgt := 25) hx hb dX3_isFaulty_18 (by decide) (fun hc => ?_) (fun hc => ?_)
    · replace h := if_t h hc
      refine lv_iconst (v := 0) hx hb dX3_isFaulty_25 (by decide) ?_
      cases h
      exact e_int X hH rfl dX3_isFaulty_26
    · replace h := if_f h hc
      refine lv_iconst (v := 1) hx hb dX3_isFaulty_21 (by decide) ?_
      refine lv_goto (tgt := 26) hx hb dX3_isFaulty_22 (by decide) ?_
      cases h
      exact e_int X hH rfl dX3_isFaulty_26
def m_X3_spreadFaults_82 (i0 : Nat) (i1 : Nat) (k4 : Sg → Int32 → Int32 → Option Sg) (k20 : Sg → Int32 → Int32 → Int32 → Option Sg) (σ : Sg) (x3 : Int32) (x4 : Int32) (x5 : Int32) : Option Sg := chk (inb x5 128) (st (wI σ 31 i1 x5.toNatClampNeg 5) (fun σ108 => k20 σ108 1 x3 (x4 + 1)))
set_option maxHeartbeats 4000000 in
set_option maxRecDepth 100000 in
theorem b_X3_spreadFaults_82 {p : Program} {l : Launch} {e : Env} {s : State} {m : MethodId} {args : Array Value} {below : List Frame} {meth : Method} {c : Code} {Γ : GG} (X : MB Γ p s m args meth c cX3_spreadFaults 6 RX3 none) {σf : Sg} {rf : Unit} (i0 : Nat) (hi0 : i0 < 2) (i1 : Nat) (hi1 : i1 < 30) (k4 : Sg → Int32 → Int32 → Option Sg) (hk4 : (∀ (σ : Sg) (x2 : Int32) (x3 : Int32), k4 σ x2 x3 = some σf → ∀ (H : Heap) (locs : List Loc) (ls : Array Slot), HW (IA Γ) Γ σ s.heap H locs → lv_has ls 6 [(0, .ref (adr Γ (kW i0 + 5))), (1, .ref (adr Γ (kR i1))), (2, .int x2), (3, .int x3)] → W p l e ({ frames := 1, cells := 0, slots := 0, locals := 21 } : Room) s m args below meth c H locs 0 0 (QV Γ σf rf below args s) (F0 m 4 ls []))) (k20 : Sg → Int32 → Int32 → Int32 → Option Sg) (hk20 : (∀ (σ : Sg) (x2 : Int32) (x3 : Int32) (x4 : Int32), k20 σ x2 x3 x4 = some σf → ∀ (H : Heap) (locs : List Loc) (ls : Array Slot), HW (IA Γ) Γ σ s.heap H locs → lv_has ls 6 [(0, .ref (adr Γ (kW i0 + 5))), (1, .ref (adr Γ (kR i1))), (2, .int x2), (3, .int x3), (4, .int x4)] → W p l e ({ frames := 1, cells := 0, slots := 0, locals := 21 } : Room) s m args below meth c H locs 0 0 (QV Γ σf rf below args s) (F0 m 20 ls []))) : (∀ (σ : Sg) (x3 : Int32) (x4 : Int32) (x5 : Int32), (m_X3_spreadFaults_82 i0 i1 k4 k20) σ x3 x4 x5 = some σf → ∀ (H : Heap) (locs : List Loc) (ls : Array Slot), HW (IA Γ) Γ σ s.heap H locs → lv_has ls 6 [(0, .ref (adr Γ (kW i0 + 5))), (1, .ref (adr Γ (kR i1))), (3, .int x3), (4, .int x4), (5, .int x5)] → W p l e ({ frames := 1, cells := 0, slots := 0, locals := 21 } : Room) s m args below meth c H locs 0 0 (QV Γ σf rf below args s) (F0 m 82 ls [])) := by
  have hx := X.1.1
  have hb := X.1.2.1
  intro σ x3 x4 x5 h H locs ls hH hl
  rw [m_X3_spreadFaults_82] at h
  refine lv_aload_n hx hb dX3_spreadFaults_82 rfl (lv_at hl 1 rfl) ?_
  refine r_get X.1 hH (kR_lt hi1) (dR0 _ hi1) rfl inlX5 4 (by decide) (v := .ref (adr Γ (kR i1 + 3))) rfl mw_446 dX3_spreadFaults_83 ?_
  refine lv_iload hx hb dX3_spreadFaults_86 (lv_at hl 4 rfl) ?_
  refine lv_iconst (v := 5) hx hb dX3_spreadFaults_88 (by decide) ?_
  obtain ⟨hg107, h⟩ := chk_some h
  obtain ⟨σ108, e109, h⟩ := st_some h
  refine r_ist X.1 hH (lR _ hi1 3 (by decide)) (dR3 _ hi1) hg107 dX3_spreadFaults_89 (fun H locs hH => ?_)
  replace hH : HW (IA Γ) Γ σ108 s.heap H locs := by rw [e109]; exact hH
  refine lv_iconst (v := 1) hx hb dX3_spreadFaults_90 (by decide) ?_
  refine lv_istore_n (lv' := [(2, .int 1), (0, .ref (adr Γ (kW i0 + 5))), (1, .ref (adr Γ (kR i1))), (3, .int x3), (4, .int x4), (5, .int x5)]) hx hb dX3_spreadFaults_91 rfl hl (by decide) rfl (fun ls hl => ?_)
  refine lv_iinc (v := x4 + 1) (lv' := [(4, .int (x4 + 1)), (2, .int 1), (0, .ref (adr Γ (kW i0 + 5))), (1, .ref (adr Γ (kR i1))), (3, .int x3), (5, .int x5)]) hx hb dX3_spreadFaults_92 hl (k := 4) rfl rfl (by decide) rfl (fun ls hl => ?_)
  refine lv_goto (tgt := 20) hx hb dX3_spreadFaults_95 (by decide) ?_
  exact hk20 σ108 1 x3 (x4 + 1) h _ _ _ hH (lv_sub hl [2, 3, 1, 4, 0] rfl)
def m_X3_spreadFaults_20 (i0 : Nat) (i1 : Nat) (k4 : Sg → Int32 → Int32 → Option Sg) : Nat → Sg → Int32 → Int32 → Int32 → Option Sg
  | 0, _, _, _, _ => none
  | n + 1, σ, x2, x3, x4 => if (σ.1 20 i0 0) ≤ x4 then k4 σ x2 (x3 + 1) else chk (inb x4 128) (chk (inb (σ.1 21 i0 x4.toNatClampNeg) 128) (if (σ.1 31 i1 (σ.1 21 i0 x4.toNatClampNeg).toNatClampNeg) = 0 then chk (inb ((2 : Int32) * (σ.1 21 i0 x4.toNatClampNeg)) 256) (bnd (m_X3_isFaulty σ i0 (σ.1 22 i0 ((2 : Int32) * (σ.1 21 i0 x4.toNatClampNeg)).toNatClampNeg)) (fun r105 => if r105 = 0 then chk (inb (((2 : Int32) * (σ.1 21 i0 x4.toNatClampNeg)) + (1 : Int32)) 256) (bnd (m_X3_isFaulty σ i0 (σ.1 22 i0 (((2 : Int32) * (σ.1 21 i0 x4.toNatClampNeg)) + (1 : Int32)).toNatClampNeg)) (fun r112 => if r112 = 0 then m_X3_spreadFaults_20 i0 i1 k4 n σ x2 x3 (x4 + 1) else m_X3_spreadFaults_82 i0 i1 k4 (m_X3_spreadFaults_20 i0 i1 k4 n) σ x3 x4 (σ.1 21 i0 x4.toNatClampNeg))) else m_X3_spreadFaults_82 i0 i1 k4 (m_X3_spreadFaults_20 i0 i1 k4 n) σ x3 x4 (σ.1 21 i0 x4.toNatClampNeg))) else m_X3_spreadFaults_20 i0 i1 k4 n σ x2 x3 (x4 + 1)))
set_option maxHeartbeats 4000000 in
set_option maxRecDepth 100000 in
theorem b_X3_spreadFaults_20 {p : Program} {l : Launch} {e : Env} {s : State} {m : MethodId} {args : Array Value} {below : List Frame} {meth : Method} {c : Code} {Γ : GG} (X : MB Γ p s m args meth c cX3_spreadFaults 6 RX3 none) {σf : Sg} {rf : Unit} (i0 : Nat) (hi0 : i0 < 2) (i1 : Nat) (hi1 : i1 < 30) (k4 : Sg → Int32 → Int32 → Option Sg) (hk4 : (∀ (σ : Sg) (x2 : Int32) (x3 : Int32), k4 σ x2 x3 = some σf → ∀ (H : Heap) (locs : List Loc) (ls : Array Slot), HW (IA Γ) Γ σ s.heap H locs → lv_has ls 6 [(0, .ref (adr Γ (kW i0 + 5))), (1, .ref (adr Γ (kR i1))), (2, .int x2), (3, .int x3)] → W p l e ({ frames := 1, cells := 0, slots := 0, locals := 21 } : Room) s m args below meth c H locs 0 0 (QV Γ σf rf below args s) (F0 m 4 ls []))) : ∀ (n : Nat), (∀ (σ : Sg) (x2 : Int32) (x3 : Int32) (x4 : Int32), (m_X3_spreadFaults_20 i0 i1 k4 n) σ x2 x3 x4 = some σf → ∀ (H : Heap) (locs : List Loc) (ls : Array Slot), HW (IA Γ) Γ σ s.heap H locs → lv_has ls 6 [(0, .ref (adr Γ (kW i0 + 5))), (1, .ref (adr Γ (kR i1))), (2, .int x2), (3, .int x3), (4, .int x4)] → W p l e ({ frames := 1, cells := 0, slots := 0, locals := 21 } : Room) s m args below meth c H locs 0 0 (QV Γ σf rf below args s) (F0 m 20 ls [])) := by
  have hx := X.1.1
  have hb := X.1.2.1
  intro n
  induction n with
  | zero => intro σ x2 x3 x4 h; rw [m_X3_spreadFaults_20] at h; cases h
  | succ n ih =>
    intro σ x2 x3 x4 h H locs ls hH hl
    rw [m_X3_spreadFaults_20] at h
    refine lv_iload hx hb dX3_spreadFaults_20 (lv_at hl 4 rfl) ?_
    refine lv_aload_n hx hb dX3_spreadFaults_22 rfl (lv_at hl 0 rfl) ?_
    refine r_get X.1 hH (lW _ hi0 5 (by decide)) (dW5 _ hi0) rfl inlX3 3 (by decide) (v := .int (σ.1 20 i0 0)) rfl mw_445 dX3_spreadFaults_23 ?_
    refine lv_icmp_ge (tgt := 98) hx hb dX3_spreadFaults_26 (by decide) (fun hc => ?_) (fun hc => ?_)
    · replace h := if_t h hc
      refine lv_iinc (v := x3 + 1) (lv' := [(3, .int (x3 + 1)), (0, .ref (adr Γ (kW i0 + 5))), (1, .ref (adr Γ (kR i1))), (2, .int x2), (4, .int x4)]) hx hb dX3_spreadFaults_98 hl (k := 3) rfl rfl (by decide) rfl (fun ls hl => ?_)
      refine lv_goto (tgt := 4) hx hb dX3_spreadFaults_101 (by decide) ?_
      exact hk4 σ x2 (x3 + 1) h _ _ _ hH (lv_sub hl [1, 2, 3, 0] rfl)
    · replace h := if_f h hc
      refine lv_aload_n hx hb dX3_spreadFaults_29 rfl (lv_at hl 0 rfl) ?_
      refine r_get X.1 hH (lW _ hi0 5 (by decide)) (dW5 _ hi0) rfl inlX3 2 (by decide) (v := .ref (adr Γ (kW i0 + 7))) rfl mw_116 dX3_spreadFaults_30 ?_
      refine lv_iload hx hb dX3_spreadFaults_33 (lv_at hl 4 rfl) ?_
      obtain ⟨hg101, h⟩ := chk_some h
      refine r_ild X.1 hH (lW _ hi0 7 (by decide)) (dW7 _ hi0) hg101 dX3_spreadFaults_35 ?_
      refine lv_istore (lv' := [(5, .int (σ.1 21 i0 x4.toNatClampNeg)), (0, .ref (adr Γ (kW i0 + 5))), (1, .ref (adr Γ (kR i1))), (2, .int x2), (3, .int x3), (4, .int x4)]) hx hb dX3_spreadFaults_36 hl (by decide) rfl (fun ls hl => ?_)
      refine lv_aload_n hx hb dX3_spreadFaults_38 rfl (lv_at hl 2 rfl) ?_
      refine r_get X.1 hH (kR_lt hi1) (dR0 _ hi1) rfl inlX5 4 (by decide) (v := .ref (adr Γ (kR i1 + 3))) rfl mw_446 dX3_spreadFaults_39 ?_
      refine lv_iload hx hb dX3_spreadFaults_42 (lv_at hl 0 rfl) ?_
      obtain ⟨hg102, h⟩ := chk_some h
      refine r_ild X.1 hH (lR _ hi1 3 (by decide)) (dR3 _ hi1) hg102 dX3_spreadFaults_44 ?_
      refine lv_if_ne (tgt := 92) hx hb dX3_spreadFaults_45 (by decide) (fun hc => ?_) (fun hc => ?_)
      · replace h := if_f h hc
        refine lv_iinc (v := x4 + 1) (lv' := [(4, .int (x4 + 1)), (5, .int (σ.1 21 i0 x4.toNatClampNeg)), (0, .ref (adr Γ (kW i0 + 5))), (1, .ref (adr Γ (kR i1))), (2, .int x2), (3, .int x3)]) hx hb dX3_spreadFaults_92 hl (k := 5) rfl rfl (by decide) rfl (fun ls hl => ?_)
        refine lv_goto (tgt := 20) hx hb dX3_spreadFaults_95 (by decide) ?_
        exact ih σ x2 x3 (x4 + 1) h _ _ _ hH (lv_sub hl [2, 3, 4, 5, 0] rfl)
      · replace h := if_t h hc
        refine lv_aload_n hx hb dX3_spreadFaults_48 rfl (lv_at hl 1 rfl) ?_
        refine lv_aload_n hx hb dX3_spreadFaults_49 rfl (lv_at hl 1 rfl) ?_
        refine r_get X.1 hH (lW _ hi0 5 (by decide)) (dW5 _ hi0) rfl inlX3 4 (by decide) (v := .ref (adr Γ (kW i0 + 8))) rfl mw_117 dX3_spreadFaults_50 ?_
        refine lv_iconst (v := 2) hx hb dX3_spreadFaults_53 (by decide) ?_
        refine lv_iload hx hb dX3_spreadFaults_54 (lv_at hl 0 rfl) ?_
        refine lv_imul hx hb dX3_spreadFaults_56 ?_
        obtain ⟨hg103, h⟩ := chk_some h
        refine r_ild X.1 hH (lW _ hi0 8 (by decide)) (dW8 _ hi0) hg103 dX3_spreadFaults_57 ?_
        obtain ⟨r105, hq104, h⟩ := bnd_some h
        refine r_callVI X.1 hl hH (As := [.int (σ.1 22 i0 ((2 : Int32) * (σ.1 21 i0 x4.toNatClampNeg)).toNatClampNeg)]) (rest := []) (c_X3_isFaulty l X.1.2.2.2.2.2.2.1 σ i0 hi0 (σ.1 22 i0 ((2 : Int32) * (σ.1 21 i0 x4.toNatClampNeg)).toNatClampNeg) _ hq104) (cw_V X.1 1 mw_486 mw_483 mw_484 mw_485 mw_77 rfl rfl (by decide +kernel) ⟨Nat.le_of_ble_eq_true rfl, Nat.le_of_ble_eq_true rfl⟩) (r_recv X.1 hH (lW _ hi0 5 (by decide)) (dW5 _ hi0) rfl) rfl rfl (Nat.le_of_ble_eq_true rfl) dX3_spreadFaults_58 ⟨Nat.zero_le _, Nat.zero_le _⟩ (fun H locs hH => ?_)
        refine lv_if_ne (tgt := 82) hx hb dX3_spreadFaults_61 (by decide) (fun hc => ?_) (fun hc => ?_)
        · replace h := if_f h hc
          exact b_X3_spreadFaults_82 (rf := ()) X i0 hi0 i1 hi1 k4 hk4 (m_X3_spreadFaults_20 i0 i1 k4 n) ih σ x3 x4 (σ.1 21 i0 x4.toNatClampNeg) h _ _ _ hH (lv_sub hl [1, 2, 4, 5, 0] rfl)
        · replace h := if_t h hc
          refine lv_aload_n hx hb dX3_spreadFaults_64 rfl (lv_at hl 1 rfl) ?_
          refine lv_aload_n hx hb dX3_spreadFaults_65 rfl (lv_at hl 1 rfl) ?_
          refine r_get X.1 hH (lW _ hi0 5 (by decide)) (dW5 _ hi0) rfl inlX3 4 (by decide) (v := .ref (adr Γ (kW i0 + 8))) rfl mw_117 dX3_spreadFaults_66 ?_
          refine lv_iconst (v := 2) hx hb dX3_spreadFaults_69 (by decide) ?_
          refine lv_iload hx hb dX3_spreadFaults_70 (lv_at hl 0 rfl) ?_
          refine lv_imul hx hb dX3_spreadFaults_72 ?_
          refine lv_iconst (v := 1) hx hb dX3_spreadFaults_73 (by decide) ?_
          refine lv_iadd hx hb dX3_spreadFaults_74 ?_
          obtain ⟨hg110, h⟩ := chk_some h
          refine r_ild X.1 hH (lW _ hi0 8 (by decide)) (dW8 _ hi0) hg110 dX3_spreadFaults_75 ?_
          obtain ⟨r112, hq111, h⟩ := bnd_some h
          refine r_callVI X.1 hl hH (As := [.int (σ.1 22 i0 (((2 : Int32) * (σ.1 21 i0 x4.toNatClampNeg)) + (1 : Int32)).toNatClampNeg)]) (rest := []) (c_X3_isFaulty l X.1.2.2.2.2.2.2.1 σ i0 hi0 (σ.1 22 i0 (((2 : Int32) * (σ.1 21 i0 x4.toNatClampNeg)) + (1 : Int32)).toNatClampNeg) _ hq111) (cw_V X.1 1 mw_486 mw_483 mw_484 mw_485 mw_77 rfl rfl (by decide +kernel) ⟨Nat.le_of_ble_eq_true rfl, Nat.le_of_ble_eq_true rfl⟩) (r_recv X.1 hH (lW _ hi0 5 (by decide)) (dW5 _ hi0) rfl) rfl rfl (Nat.le_of_ble_eq_true rfl) dX3_spreadFaults_76 ⟨Nat.zero_le _, Nat.zero_le _⟩ (fun H locs hH => ?_)
          refine lv_if_eq (tgt := 92) hx hb dX3_spreadFaults_79 (by decide) (fun hc => ?_) (fun hc => ?_)
          · replace h := if_t h hc
            refine lv_iinc (v := x4 + 1) (lv' := [(4, .int (x4 + 1)), (5, .int (σ.1 21 i0 x4.toNatClampNeg)), (0, .ref (adr Γ (kW i0 + 5))), (1, .ref (adr Γ (kR i1))), (2, .int x2), (3, .int x3)]) hx hb dX3_spreadFaults_92 hl (k := 5) rfl rfl (by decide) rfl (fun ls hl => ?_)
            refine lv_goto (tgt := 20) hx hb dX3_spreadFaults_95 (by decide) ?_
            exact ih σ x2 x3 (x4 + 1) h _ _ _ hH (lv_sub hl [2, 3, 4, 5, 0] rfl)
          · replace h := if_f h hc
            exact b_X3_spreadFaults_82 (rf := ()) X i0 hi0 i1 hi1 k4 hk4 (m_X3_spreadFaults_20 i0 i1 k4 n) ih σ x3 x4 (σ.1 21 i0 x4.toNatClampNeg) h _ _ _ hH (lv_sub hl [1, 2, 4, 5, 0] rfl)
def m_X3_spreadFaults_4 (i0 : Nat) (i1 : Nat)  : Nat → Sg → Int32 → Int32 → Option Sg
  | 0, _, _, _ => none
  | n + 1, σ, x2, x3 => if 128 < x3 then some σ else if x2 = 0 then some σ else m_X3_spreadFaults_20 i0 i1 (m_X3_spreadFaults_4 i0 i1 n) 1000 σ 0 x3 0
set_option maxHeartbeats 4000000 in
set_option maxRecDepth 100000 in
theorem b_X3_spreadFaults_4 {p : Program} {l : Launch} {e : Env} {s : State} {m : MethodId} {args : Array Value} {below : List Frame} {meth : Method} {c : Code} {Γ : GG} (X : MB Γ p s m args meth c cX3_spreadFaults 6 RX3 none) {σf : Sg} {rf : Unit} (i0 : Nat) (hi0 : i0 < 2) (i1 : Nat) (hi1 : i1 < 30) : ∀ (n : Nat), (∀ (σ : Sg) (x2 : Int32) (x3 : Int32), (m_X3_spreadFaults_4 i0 i1 n) σ x2 x3 = some σf → ∀ (H : Heap) (locs : List Loc) (ls : Array Slot), HW (IA Γ) Γ σ s.heap H locs → lv_has ls 6 [(0, .ref (adr Γ (kW i0 + 5))), (1, .ref (adr Γ (kR i1))), (2, .int x2), (3, .int x3)] → W p l e ({ frames := 1, cells := 0, slots := 0, locals := 21 } : Room) s m args below meth c H locs 0 0 (QV Γ σf rf below args s) (F0 m 4 ls [])) := by
  have hx := X.1.1
  have hb := X.1.2.1
  intro n
  induction n with
  | zero => intro σ x2 x3 h; rw [m_X3_spreadFaults_4] at h; cases h
  | succ n ih =>
    intro σ x2 x3 h H locs ls hH hl
    rw [m_X3_spreadFaults_4] at h
    refine lv_iload_n hx hb dX3_spreadFaults_4 rfl (lv_at hl 3 rfl) ?_
    refine lv_sipush (v := 128) hx hb dX3_spreadFaults_5 (by decide) ?_
    refine lv_icmp_gt (tgt := 104) hx hb dX3_spreadFaults_8 (by decide) (fun hc => ?_) (fun hc => ?_)
    · replace h := if_t h hc
      cases h
      exact e_void (v := rf) X hH dX3_spreadFaults_104
    · replace h := if_f h hc
      refine lv_iload_n hx hb dX3_spreadFaults_11 rfl (lv_at hl 2 rfl) ?_
      refine lv_if_eq (tgt := 104) hx hb dX3_spreadFaults_12 (by decide) (fun hc => ?_) (fun hc => ?_)
      · replace h := if_t h hc
        cases h
        exact e_void (v := rf) X hH dX3_spreadFaults_104
      · replace h := if_f h hc
        refine lv_iconst (v := 0) hx hb dX3_spreadFaults_15 (by decide) ?_
        refine lv_istore_n (lv' := [(2, .int 0), (0, .ref (adr Γ (kW i0 + 5))), (1, .ref (adr Γ (kR i1))), (3, .int x3)]) hx hb dX3_spreadFaults_16 rfl hl (by decide) rfl (fun ls hl => ?_)
        refine lv_iconst (v := 0) hx hb dX3_spreadFaults_17 (by decide) ?_
        refine lv_istore (lv' := [(4, .int 0), (2, .int 0), (0, .ref (adr Γ (kW i0 + 5))), (1, .ref (adr Γ (kR i1))), (3, .int x3)]) hx hb dX3_spreadFaults_18 hl (by decide) rfl (fun ls hl => ?_)
        exact b_X3_spreadFaults_20 (rf := ()) X i0 hi0 i1 hi1 (m_X3_spreadFaults_4 i0 i1 n) ih 1000 σ 0 x3 0 h _ _ _ hH (lv_sub hl [2, 3, 1, 4, 0] rfl)
/-- CutoffMill$Maker.spreadFaults(LCutoffMill$Result;)V -/
def m_X3_spreadFaults (σ : Sg) (i0 : Nat) (i1 : Nat) : Option Sg := m_X3_spreadFaults_4 i0 i1 1000 σ 1 0
set_option maxHeartbeats 4000000 in
set_option maxRecDepth 100000 in
theorem c_X3_spreadFaults (l : Launch) {Γ : GG} (hJ : IJ Γ) (σ : Sg) (i0 : Nat) (hi0 : i0 < 2) (i1 : Nat) (hi1 : i1 < 30) (σf : Sg) (rf : Unit) (h : m_X3_spreadFaults σ i0 i1 = some σf) : CV l yX3_spreadFaults (wy yX3_spreadFaults cX3_spreadFaults 6 none) { frames := 1, cells := 0, slots := 0, locals := 21 } Γ σ [.ref (adr Γ (kW i0 + 5)), .ref (adr Γ (kR i1))] σf rf := by
  refine met_of (by decide +kernel) hJ (Nat.le_of_ble_eq_true rfl) (fun p e s m below meth c ls X hH hl => ?_)
  have hl : lv_has ls 6 [(0, .ref (adr Γ (kW i0 + 5))), (1, .ref (adr Γ (kR i1)))] := hl
  have hx := X.1.1
  have hb := X.1.2.1
  rw [m_X3_spreadFaults] at h
  refine lv_iconst (v := 1) hx hb dX3_spreadFaults_0 (by decide) ?_
  refine lv_istore_n (lv' := [(2, .int 1), (0, .ref (adr Γ (kW i0 + 5))), (1, .ref (adr Γ (kR i1)))]) hx hb dX3_spreadFaults_1 rfl hl (by decide) rfl (fun ls hl => ?_)
  refine lv_iconst (v := 0) hx hb dX3_spreadFaults_2 (by decide) ?_
  refine lv_istore_n (lv' := [(3, .int 0), (2, .int 1), (0, .ref (adr Γ (kW i0 + 5))), (1, .ref (adr Γ (kR i1)))]) hx hb dX3_spreadFaults_3 rfl hl (by decide) rfl (fun ls hl => ?_)
  exact b_X3_spreadFaults_4 (rf := ()) X i0 hi0 i1 hi1  1000 σ 1 0 h _ _ _ hH (lv_sub hl [2, 3, 1, 0] rfl)
/-- CutoffMill$Maker.isNoCall(I)Z -/
def m_X3_isNoCall (σ : Sg) (i0 : Nat) (x1 : Int32) : Option Int32 := if x1 < 0 then some 1 else chk (inb (x1 / (16 : Int32)) (lenP 2 i0)) (bnd (σ.2.2 2 i0 (x1 / (16 : Int32)).toNatClampNeg) (fun r102 => chk (decide (r102 < 30)) (chk (inb x1 128) (if (σ.1 33 r102 x1.toNatClampNeg) = 0 then some 0 else some 1))))
set_option maxHeartbeats 4000000 in
set_option maxRecDepth 100000 in
theorem c_X3_isNoCall (l : Launch) {Γ : GG} (hJ : IJ Γ) (σ : Sg) (i0 : Nat) (hi0 : i0 < 2) (x1 : Int32) (rf : Int32) (h : m_X3_isNoCall σ i0 x1 = some rf) : CI l yX3_isNoCall (wy yX3_isNoCall cX3_isNoCall 2 (some .boolean)) { frames := 0, cells := 0, slots := 0, locals := 0 } Γ σ [.ref (adr Γ (kW i0 + 5)), .int x1] σ rf := by
  refine met_of (by decide +kernel) hJ (Nat.le_of_ble_eq_true rfl) (fun p e s m below meth c ls X hH hl => ?_)
  have hl : lv_has ls 2 [(0, .ref (adr Γ (kW i0 + 5))), (1, .int x1)] := hl
  have hx := X.1.1
  have hb := X.1.2.1
  rw [m_X3_isNoCall] at h
  refine lv_iload_n hx hb dX3_isNoCall_0 rfl (lv_at hl 1 rfl) ?_
  refine lv_if_lt (tgt := 21) hx hb dX3_isNoCall_1 (by decide) (fun hc => ?_) (fun hc => ?_)
  · replace h := if_t h hc
    refine lv_iconst (v := 1) hx hb dX3_isNoCall_21 (by decide) ?_
    refine lv_goto (tgt := 26) hx hb dX3_isNoCall_22 (by decide) ?_
    cases h
    exact e_int X hH rfl dX3_isNoCall_26
  · replace h := if_f h hc
    refine lv_aload_n hx hb dX3_isNoCall_4 rfl (lv_at hl 0 rfl) ?_
    refine r_get X.1 hH (lW _ hi0 5 (by decide)) (dW5 _ hi0) rfl inlX3 1 (by decide) (v := .ref (adr Γ (kW i0 + 6))) rfl mw_115 dX3_isNoCall_5 ?_
    refine lv_iload_n hx hb dX3_isNoCall_8 rfl (lv_at hl 1 rfl) ?_
    refine lv_bipush (v := 16) hx hb dX3_isNoCall_9 (by decide) ?_
    refine lv_idiv hx hb dX3_isNoCall_11 (by decide) ?_
    obtain ⟨hg101, h⟩ := chk_some h
    obtain ⟨r102, he103, h⟩ := bnd_some h
    obtain ⟨hr102, h⟩ := chk_some h
    replace hr102 := of_decide_eq_true hr102
    refine r_ald X.1 hH (lW _ hi0 6 (by decide)) (dW6 _ hi0) hg101 he103 dX3_isNoCall_12 ?_
    refine r_get X.1 hH (kR_lt hr102) (dR0 _ hr102) rfl inlX5 6 (by decide) (v := .ref (adr Γ (kR r102 + 5))) rfl mw_491 dX3_isNoCall_13 ?_
    refine lv_iload_n hx hb dX3_isNoCall_16 rfl (lv_at hl 1 rfl) ?_
    obtain ⟨hg104, h⟩ := chk_some h
    refine r_zld X.1 hH (lR _ hr102 5 (by decide)) (dR5 _ hr102) hg104 dX3_isNoCall_17 ?_
    refine lv_if_eq (tgt := 25) hx hb dX3_isNoCall_18 (by decide) (fun hc => ?_) (fun hc => ?_)
    · replace h := if_t h hc
      refine lv_iconst (v := 0) hx hb dX3_isNoCall_25 (by decide) ?_
      cases h
      exact e_int X hH rfl dX3_isNoCall_26
    · replace h := if_f h hc
      refine lv_iconst (v := 1) hx hb dX3_isNoCall_21 (by decide) ?_
      refine lv_goto (tgt := 26) hx hb dX3_isNoCall_22 (by decide) ?_
      cases h
      exact e_int X hH rfl dX3_isNoCall_26
/-- CutoffMill$Declaration.numberOf(I)I -/
def m_X1_numberOf (σ : Sg) (x0 : Int32) : Option Int32 := some (((x0 >>> ((3 : Int32) &&& 31)) &&& (255 : Int32)) - (99 : Int32))
set_option maxHeartbeats 4000000 in
set_option maxRecDepth 100000 in
theorem c_X1_numberOf (l : Launch) {Γ : GG} (hJ : IJ Γ) (σ : Sg) (x0 : Int32) (rf : Int32) (h : m_X1_numberOf σ x0 = some rf) : CI l yX1_numberOf (wy yX1_numberOf cX1_numberOf 1 (some .int)) { frames := 0, cells := 0, slots := 0, locals := 0 } Γ σ [.int x0] σ rf := by
  refine met_of (by decide +kernel) hJ (Nat.le_of_ble_eq_true rfl) (fun p e s m below meth c ls X hH hl => ?_)
  have hl : lv_has ls 1 [(0, .int x0)] := hl
  have hx := X.1.1
  have hb := X.1.2.1
  rw [m_X1_numberOf] at h
  refine lv_iload_n hx hb dX1_numberOf_0 rfl (lv_at hl 0 rfl) ?_
  refine lv_iconst (v := 3) hx hb dX1_numberOf_1 (by decide) ?_
  refine lv_ishr hx hb dX1_numberOf_2 ?_
  refine lv_sipush (v := 255) hx hb dX1_numberOf_3 (by decide) ?_
  refine lv_iand hx hb dX1_numberOf_6 ?_
  refine lv_bipush (v := 99) hx hb dX1_numberOf_7 (by decide) ?_
  refine lv_isub hx hb dX1_numberOf_9 ?_
  cases h
  exact e_int X hH rfl dX1_numberOf_10
def m_X3_numberWithTargets_16 (σ : Sg) (i0 : Nat) (i1 : Nat) (x2 : Int32)  : Nat → Int32 → Int32 → Option Int32
  | 0, _, _ => none
  | n + 1, x3, x4 => if 2 ≤ x4 then some x3 else chk (inb (((2 : Int32) * x2) + x4) 256) (if (σ.1 22 i0 (((2 : Int32) * x2) + x4).toNatClampNeg) < 0 then m_X3_numberWithTargets_16 σ i0 i1 x2 n x3 (x4 + 1) else bnd (m_X3_isNoCall σ i0 (σ.1 22 i0 (((2 : Int32) * x2) + x4).toNatClampNeg)) (fun r107 => if r107 = 0 then m_X3_numberWithTargets_16 σ i0 i1 x2 n x3 (x4 + 1) else chk (inb ((σ.1 22 i0 (((2 : Int32) * x2) + x4).toNatClampNeg) / (16 : Int32)) (lenP 2 i0)) (bnd (σ.2.2 2 i0 ((σ.1 22 i0 (((2 : Int32) * x2) + x4).toNatClampNeg) / (16 : Int32)).toNatClampNeg) (fun r110 => chk (decide (r110 < 30)) (chk (inb (σ.1 22 i0 (((2 : Int32) * x2) + x4).toNatClampNeg) 128) (m_X3_numberWithTargets_16 σ i0 i1 x2 n (x3 + (σ.1 34 r110 (σ.1 22 i0 (((2 : Int32) * x2) + x4).toNatClampNeg).toNatClampNeg)) (x4 + 1)))))))
set_option maxHeartbeats 4000000 in
set_option maxRecDepth 100000 in
theorem b_X3_numberWithTargets_16 {p : Program} {l : Launch} {e : Env} {s : State} {m : MethodId} {args : Array Value} {below : List Frame} {meth : Method} {c : Code} {Γ : GG} (X : MB Γ p s m args meth c cX3_numberWithTargets 6 RX3 (some .int)) (σ : Sg) {rf : Int32} (i0 : Nat) (hi0 : i0 < 2) (i1 : Nat) (hi1 : i1 < 30) (x2 : Int32) : ∀ (n : Nat), (∀ (x3 : Int32) (x4 : Int32), (m_X3_numberWithTargets_16 σ i0 i1 x2 n) x3 x4 = some rf → ∀ (H : Heap) (locs : List Loc) (ls : Array Slot), HW (IA Γ) Γ σ s.heap H locs → lv_has ls 6 [(0, .ref (adr Γ (kW i0 + 5))), (2, .int x2), (3, .int x3), (4, .int x4)] → W p l e ({ frames := 1, cells := 0, slots := 0, locals := 21 } : Room) s m args below meth c H locs 0 0 (QI Γ σ rf below args s) (F0 m 16 ls [])) := by
  have hx := X.1.1
  have hb := X.1.2.1
  intro n
  induction n with
  | zero => intro x3 x4 h; rw [m_X3_numberWithTargets_16] at h; cases h
  | succ n ih =>
    intro x3 x4 h H locs ls hH hl
    rw [m_X3_numberWithTargets_16] at h
    refine lv_iload hx hb dX3_numberWithTargets_16 (lv_at hl 3 rfl) ?_
    refine lv_iconst (v := 2) hx hb dX3_numberWithTargets_18 (by decide) ?_
    refine lv_icmp_ge (tgt := 74) hx hb dX3_numberWithTargets_19 (by decide) (fun hc => ?_) (fun hc => ?_)
    · replace h := if_t h hc
      refine lv_iload_n hx hb dX3_numberWithTargets_74 rfl (lv_at hl 2 rfl) ?_
      cases h
      exact e_int X hH rfl dX3_numberWithTargets_75
    · replace h := if_f h hc
      refine lv_aload_n hx hb dX3_numberWithTargets_22 rfl (lv_at hl 0 rfl) ?_
      refine r_get X.1 hH (lW _ hi0 5 (by decide)) (dW5 _ hi0) rfl inlX3 4 (by decide) (v := .ref (adr Γ (kW i0 + 8))) rfl mw_117 dX3_numberWithTargets_23 ?_
      refine lv_iconst (v := 2) hx hb dX3_numberWithTargets_26 (by decide) ?_
      refine lv_iload_n hx hb dX3_numberWithTargets_27 rfl (lv_at hl 1 rfl) ?_
      refine lv_imul hx hb dX3_numberWithTargets_28 ?_
      refine lv_iload hx hb dX3_numberWithTargets_29 (lv_at hl 3 rfl) ?_
      refine lv_iadd hx hb dX3_numberWithTargets_31 ?_
      obtain ⟨hg105, h⟩ := chk_some h
      refine r_ild X.1 hH (lW _ hi0 8 (by decide)) (dW8 _ hi0) hg105 dX3_numberWithTargets_32 ?_
      refine lv_istore (lv' := [(5, .int (σ.1 22 i0 (((2 : Int32) * x2) + x4).toNatClampNeg)), (0, .ref (adr Γ (kW i0 + 5))), (2, .int x2), (3, .int x3), (4, .int x4)]) hx hb dX3_numberWithTargets_33 hl (by decide) rfl (fun ls hl => ?_)
      refine lv_iload hx hb dX3_numberWithTargets_35 (lv_at hl 0 rfl) ?_
      refine lv_if_lt (tgt := 68) hx hb dX3_numberWithTargets_37 (by decide) (fun hc => ?_) (fun hc => ?_)
      · replace h := if_t h hc
        refine lv_iinc (v := x4 + 1) (lv' := [(4, .int (x4 + 1)), (5, .int (σ.1 22 i0 (((2 : Int32) * x2) + x4).toNatClampNeg)), (0, .ref (adr Γ (kW i0 + 5))), (2, .int x2), (3, .int x3)]) hx hb dX3_numberWithTargets_68 hl (k := 4) rfl rfl (by decide) rfl (fun ls hl => ?_)
        refine lv_goto (tgt := 16) hx hb dX3_numberWithTargets_71 (by decide) ?_
        exact ih  x3 (x4 + 1) h _ _ _ hH (lv_sub hl [2, 3, 4, 0] rfl)
      · replace h := if_f h hc
        refine lv_aload_n hx hb dX3_numberWithTargets_40 rfl (lv_at hl 1 rfl) ?_
        refine lv_iload hx hb dX3_numberWithTargets_41 (lv_at hl 0 rfl) ?_
        obtain ⟨r107, hq106, h⟩ := bnd_some h
        refine r_callVI X.1 hl hH (As := [.int (σ.1 22 i0 (((2 : Int32) * x2) + x4).toNatClampNeg)]) (rest := []) (c_X3_isNoCall l X.1.2.2.2.2.2.2.1 σ i0 hi0 (σ.1 22 i0 (((2 : Int32) * x2) + x4).toNatClampNeg) _ hq106) (cw_V X.1 1 mw_496 mw_493 mw_494 mw_495 mw_77 rfl rfl (by decide +kernel) ⟨Nat.le_of_ble_eq_true rfl, Nat.le_of_ble_eq_true rfl⟩) (r_recv X.1 hH (lW _ hi0 5 (by decide)) (dW5 _ hi0) rfl) rfl rfl (Nat.le_of_ble_eq_true rfl) dX3_numberWithTargets_43 ⟨Nat.zero_le _, Nat.zero_le _⟩ (fun H locs hH => ?_)
        refine lv_if_eq (tgt := 68) hx hb dX3_numberWithTargets_46 (by decide) (fun hc => ?_) (fun hc => ?_)
        · replace h := if_t h hc
          refine lv_iinc (v := x4 + 1) (lv' := [(4, .int (x4 + 1)), (5, .int (σ.1 22 i0 (((2 : Int32) * x2) + x4).toNatClampNeg)), (0, .ref (adr Γ (kW i0 + 5))), (2, .int x2), (3, .int x3)]) hx hb dX3_numberWithTargets_68 hl (k := 4) rfl rfl (by decide) rfl (fun ls hl => ?_)
          refine lv_goto (tgt := 16) hx hb dX3_numberWithTargets_71 (by decide) ?_
          exact ih  x3 (x4 + 1) h _ _ _ hH (lv_sub hl [2, 3, 4, 0] rfl)
        · replace h := if_f h hc
          refine lv_iload_n hx hb dX3_numberWithTargets_49 rfl (lv_at hl 3 rfl) ?_
          refine lv_aload_n hx hb dX3_numberWithTargets_50 rfl (lv_at hl 1 rfl) ?_
          refine r_get X.1 hH (lW _ hi0 5 (by decide)) (dW5 _ hi0) rfl inlX3 1 (by decide) (v := .ref (adr Γ (kW i0 + 6))) rfl mw_115 dX3_numberWithTargets_51 ?_
          refine lv_iload hx hb dX3_numberWithTargets_54 (lv_at hl 0 rfl) ?_
          refine lv_bipush (v := 16) hx hb dX3_numberWithTargets_56 (by decide) ?_
          refine lv_idiv hx hb dX3_numberWithTargets_58 (by decide) ?_
          obtain ⟨hg109, h⟩ := chk_some h
          obtain ⟨r110, he111, h⟩ := bnd_some h
          obtain ⟨hr110, h⟩ := chk_some h
          replace hr110 := of_decide_eq_true hr110
          refine r_ald X.1 hH (lW _ hi0 6 (by decide)) (dW6 _ hi0) hg109 he111 dX3_numberWithTargets_59 ?_
          refine r_get X.1 hH (kR_lt hr110) (dR0 _ hr110) rfl inlX5 7 (by decide) (v := .ref (adr Γ (kR r110 + 6))) rfl mw_492 dX3_numberWithTargets_60 ?_
          refine lv_iload hx hb dX3_numberWithTargets_63 (lv_at hl 0 rfl) ?_
          obtain ⟨hg112, h⟩ := chk_some h
          refine r_ild X.1 hH (lR _ hr110 6 (by decide)) (dR6 _ hr110) hg112 dX3_numberWithTargets_65 ?_
          refine lv_iadd hx hb dX3_numberWithTargets_66 ?_
          refine lv_istore_n (lv' := [(3, .int (x3 + (σ.1 34 r110 (σ.1 22 i0 (((2 : Int32) * x2) + x4).toNatClampNeg).toNatClampNeg))), (5, .int (σ.1 22 i0 (((2 : Int32) * x2) + x4).toNatClampNeg)), (0, .ref (adr Γ (kW i0 + 5))), (2, .int x2), (4, .int x4)]) hx hb dX3_numberWithTargets_67 rfl hl (by decide) rfl (fun ls hl => ?_)
          refine lv_iinc (v := x4 + 1) (lv' := [(4, .int (x4 + 1)), (3, .int (x3 + (σ.1 34 r110 (σ.1 22 i0 (((2 : Int32) * x2) + x4).toNatClampNeg).toNatClampNeg))), (5, .int (σ.1 22 i0 (((2 : Int32) * x2) + x4).toNatClampNeg)), (0, .ref (adr Γ (kW i0 + 5))), (2, .int x2)]) hx hb dX3_numberWithTargets_68 hl (k := 4) rfl rfl (by decide) rfl (fun ls hl => ?_)
          refine lv_goto (tgt := 16) hx hb dX3_numberWithTargets_71 (by decide) ?_
          exact ih  (x3 + (σ.1 34 r110 (σ.1 22 i0 (((2 : Int32) * x2) + x4).toNatClampNeg).toNatClampNeg)) (x4 + 1) h _ _ _ hH (lv_sub hl [3, 4, 1, 0] rfl)
/-- CutoffMill$Maker.numberWithTargets(LCutoffMill$Result;I)I -/
def m_X3_numberWithTargets (σ : Sg) (i0 : Nat) (i1 : Nat) (x2 : Int32) : Option Int32 := chk (inb x2 128) (bnd (m_X1_numberOf σ (σ.1 26 (i1 + 2) x2.toNatClampNeg)) (fun r103 => m_X3_numberWithTargets_16 σ i0 i1 x2 1000 r103 0))
set_option maxHeartbeats 4000000 in
set_option maxRecDepth 100000 in
theorem c_X3_numberWithTargets (l : Launch) {Γ : GG} (hJ : IJ Γ) (σ : Sg) (i0 : Nat) (hi0 : i0 < 2) (i1 : Nat) (hi1 : i1 < 30) (x2 : Int32) (rf : Int32) (h : m_X3_numberWithTargets σ i0 i1 x2 = some rf) : CI l yX3_numberWithTargets (wy yX3_numberWithTargets cX3_numberWithTargets 6 (some .int)) { frames := 1, cells := 0, slots := 0, locals := 21 } Γ σ [.ref (adr Γ (kW i0 + 5)), .ref (adr Γ (kR i1)), .int x2] σ rf := by
  refine met_of (by decide +kernel) hJ (Nat.le_of_ble_eq_true rfl) (fun p e s m below meth c ls X hH hl => ?_)
  have hl : lv_has ls 6 [(0, .ref (adr Γ (kW i0 + 5))), (1, .ref (adr Γ (kR i1))), (2, .int x2)] := hl
  have hx := X.1.1
  have hb := X.1.2.1
  rw [m_X3_numberWithTargets] at h
  refine lv_aload_n hx hb dX3_numberWithTargets_0 rfl (lv_at hl 1 rfl) ?_
  refine r_get X.1 hH (kR_lt hi1) (dR0 _ hi1) rfl inlX5 1 (by decide) (v := .ref (adr Γ (kT (i1 + 2)))) rfl mw_452 dX3_numberWithTargets_1 ?_
  refine r_get X.1 hH (kT_lt (by omega)) (dT0 _ (by omega)) rfl inlX8 0 (by decide) (v := .ref (adr Γ (kT (i1 + 2) + 1))) rfl mw_453 dX3_numberWithTargets_4 ?_
  refine lv_iload_n hx hb dX3_numberWithTargets_7 rfl (lv_at hl 2 rfl) ?_
  obtain ⟨hg101, h⟩ := chk_some h
  refine r_ild X.1 hH (lT1 _ (by omega)) (dT1 _ (by omega)) hg101 dX3_numberWithTargets_8 ?_
  obtain ⟨r103, hq102, h⟩ := bnd_some h
  refine r_callSI X.1 hl hH (As := [.int (σ.1 26 (i1 + 2) x2.toNatClampNeg)]) (rest := []) (c_X1_numberOf l X.1.2.2.2.2.2.2.1 σ (σ.1 26 (i1 + 2) x2.toNatClampNeg) _ hq102) (cw_S X.1 1 mw_503 mw_501 mw_502 mw_196 rfl rfl (by decide +kernel) ⟨Nat.le_of_ble_eq_true rfl, Nat.le_of_ble_eq_true rfl⟩) rfl rfl (Nat.le_of_ble_eq_true rfl) dX3_numberWithTargets_9 ⟨Nat.zero_le _, Nat.zero_le _⟩ (fun H locs hH => ?_)
  refine lv_istore_n (lv' := [(3, .int r103), (0, .ref (adr Γ (kW i0 + 5))), (1, .ref (adr Γ (kR i1))), (2, .int x2)]) hx hb dX3_numberWithTargets_12 rfl hl (by decide) rfl (fun ls hl => ?_)
  refine lv_iconst (v := 0) hx hb dX3_numberWithTargets_13 (by decide) ?_
  refine lv_istore (lv' := [(4, .int 0), (3, .int r103), (0, .ref (adr Γ (kW i0 + 5))), (1, .ref (adr Γ (kR i1))), (2, .int x2)]) hx hb dX3_numberWithTargets_14 hl (by decide) rfl (fun ls hl => ?_)
  exact b_X3_numberWithTargets_16 X σ i0 hi0 i1 hi1 x2  1000  r103 0 h _ _ _ hH (lv_sub hl [2, 4, 1, 0] rfl)
def m_X3_findPlain_20 (i0 : Nat) (i1 : Nat) (k4 : Sg → Int32 → Int32 → Option Sg) : Nat → Sg → Int32 → Int32 → Int32 → Option Sg
  | 0, _, _, _, _ => none
  | n + 1, σ, x2, x3, x4 => if (σ.1 20 i0 0) ≤ x4 then k4 σ x2 (x3 + 1) else chk (inb x4 128) (chk (inb (σ.1 21 i0 x4.toNatClampNeg) 128) (if (σ.1 31 i1 (σ.1 21 i0 x4.toNatClampNeg).toNatClampNeg) = 0 then chk (inb (σ.1 21 i0 x4.toNatClampNeg) 128) (if (σ.1 33 i1 (σ.1 21 i0 x4.toNatClampNeg).toNatClampNeg) = 0 then chk (inb ((2 : Int32) * (σ.1 21 i0 x4.toNatClampNeg)) 256) (bnd (m_X3_isNoCall σ i0 (σ.1 22 i0 ((2 : Int32) * (σ.1 21 i0 x4.toNatClampNeg)).toNatClampNeg)) (fun r106 => if r106 = 0 then m_X3_findPlain_20 i0 i1 k4 n σ x2 x3 (x4 + 1) else chk (inb (((2 : Int32) * (σ.1 21 i0 x4.toNatClampNeg)) + (1 : Int32)) 256) (bnd (m_X3_isNoCall σ i0 (σ.1 22 i0 (((2 : Int32) * (σ.1 21 i0 x4.toNatClampNeg)) + (1 : Int32)).toNatClampNeg)) (fun r110 => if r110 = 0 then m_X3_findPlain_20 i0 i1 k4 n σ x2 x3 (x4 + 1) else chk (inb (σ.1 21 i0 x4.toNatClampNeg) 128) (st (wI σ 33 i1 (σ.1 21 i0 x4.toNatClampNeg).toNatClampNeg 1) (fun σ113 => bnd (m_X3_numberWithTargets σ113 i0 i1 (σ.1 21 i0 x4.toNatClampNeg)) (fun r116 => chk (inb (σ.1 21 i0 x4.toNatClampNeg) 128) (st (wI σ113 34 i1 (σ.1 21 i0 x4.toNatClampNeg).toNatClampNeg r116) (fun σ119 => m_X3_findPlain_20 i0 i1 k4 n σ119 1 x3 (x4 + 1)))))))))) else m_X3_findPlain_20 i0 i1 k4 n σ x2 x3 (x4 + 1)) else m_X3_findPlain_20 i0 i1 k4 n σ x2 x3 (x4 + 1)))
set_option maxHeartbeats 4000000 in
set_option maxRecDepth 100000 in
theorem b_X3_findPlain_20 {p : Program} {l : Launch} {e : Env} {s : State} {m : MethodId} {args : Array Value} {below : List Frame} {meth : Method} {c : Code} {Γ : GG} (X : MB Γ p s m args meth c cX3_findPlain 6 RX3 none) {σf : Sg} {rf : Unit} (i0 : Nat) (hi0 : i0 < 2) (i1 : Nat) (hi1 : i1 < 30) (k4 : Sg → Int32 → Int32 → Option Sg) (hk4 : (∀ (σ : Sg) (x2 : Int32) (x3 : Int32), k4 σ x2 x3 = some σf → ∀ (H : Heap) (locs : List Loc) (ls : Array Slot), HW (IA Γ) Γ σ s.heap H locs → lv_has ls 6 [(0, .ref (adr Γ (kW i0 + 5))), (1, .ref (adr Γ (kR i1))), (2, .int x2), (3, .int x3)] → W p l e ({ frames := 2, cells := 0, slots := 0, locals := 46 } : Room) s m args below meth c H locs 0 0 (QV Γ σf rf below args s) (F0 m 4 ls []))) : ∀ (n : Nat), (∀ (σ : Sg) (x2 : Int32) (x3 : Int32) (x4 : Int32), (m_X3_findPlain_20 i0 i1 k4 n) σ x2 x3 x4 = some σf → ∀ (H : Heap) (locs : List Loc) (ls : Array Slot), HW (IA Γ) Γ σ s.heap H locs → lv_has ls 6 [(0, .ref (adr Γ (kW i0 + 5))), (1, .ref (adr Γ (kR i1))), (2, .int x2), (3, .int x3), (4, .int x4)] → W p l e ({ frames := 2, cells := 0, slots := 0, locals := 46 } : Room) s m args below meth c H locs 0 0 (QV Γ σf rf below args s) (F0 m 20 ls [])) := by
  have hx := X.1.1
  have hb := X.1.2.1
  intro n
  induction n with
  | zero => intro σ x2 x3 x4 h; rw [m_X3_findPlain_20] at h; cases h
  | succ n ih =>
    intro σ x2 x3 x4 h H locs ls hH hl
    rw [m_X3_findPlain_20] at h
    refine lv_iload hx hb dX3_findPlain_20 (lv_at hl 4 rfl) ?_
    refine lv_aload_n hx hb dX3_findPlain_22 rfl (lv_at hl 0 rfl) ?_
    refine r_get X.1 hH (lW _ hi0 5 (by decide)) (dW5 _ hi0) rfl inlX3 3 (by decide) (v := .int (σ.1 20 i0 0)) rfl mw_445 dX3_findPlain_23 ?_
    refine lv_icmp_ge (tgt := 122) hx hb dX3_findPlain_26 (by decide) (fun hc => ?_) (fun hc => ?_)
    · replace h := if_t h hc
      refine lv_iinc (v := x3 + 1) (lv' := [(3, .int (x3 + 1)), (0, .ref (adr Γ (kW i0 + 5))), (1, .ref (adr Γ (kR i1))), (2, .int x2), (4, .int x4)]) hx hb dX3_findPlain_122 hl (k := 3) rfl rfl (by decide) rfl (fun ls hl => ?_)
      refine lv_goto (tgt := 4) hx hb dX3_findPlain_125 (by decide) ?_
      exact hk4 σ x2 (x3 + 1) h _ _ _ hH (lv_sub hl [1, 2, 3, 0] rfl)
    · replace h := if_f h hc
      refine lv_aload_n hx hb dX3_findPlain_29 rfl (lv_at hl 0 rfl) ?_
      refine r_get X.1 hH (lW _ hi0 5 (by decide)) (dW5 _ hi0) rfl inlX3 2 (by decide) (v := .ref (adr Γ (kW i0 + 7))) rfl mw_116 dX3_findPlain_30 ?_
      refine lv_iload hx hb dX3_findPlain_33 (lv_at hl 4 rfl) ?_
      obtain ⟨hg101, h⟩ := chk_some h
      refine r_ild X.1 hH (lW _ hi0 7 (by decide)) (dW7 _ hi0) hg101 dX3_findPlain_35 ?_
      refine lv_istore (lv' := [(5, .int (σ.1 21 i0 x4.toNatClampNeg)), (0, .ref (adr Γ (kW i0 + 5))), (1, .ref (adr Γ (kR i1))), (2, .int x2), (3, .int x3), (4, .int x4)]) hx hb dX3_findPlain_36 hl (by decide) rfl (fun ls hl => ?_)
      refine lv_aload_n hx hb dX3_findPlain_38 rfl (lv_at hl 2 rfl) ?_
      refine r_get X.1 hH (kR_lt hi1) (dR0 _ hi1) rfl inlX5 4 (by decide) (v := .ref (adr Γ (kR i1 + 3))) rfl mw_446 dX3_findPlain_39 ?_
      refine lv_iload hx hb dX3_findPlain_42 (lv_at hl 0 rfl) ?_
      obtain ⟨hg102, h⟩ := chk_some h
      refine r_ild X.1 hH (lR _ hi1 3 (by decide)) (dR3 _ hi1) hg102 dX3_findPlain_44 ?_
      refine lv_if_ne (tgt := 116) hx hb dX3_findPlain_45 (by decide) (fun hc => ?_) (fun hc => ?_)
      · replace h := if_f h hc
        refine lv_iinc (v := x4 + 1) (lv' := [(4, .int (x4 + 1)), (5, .int (σ.1 21 i0 x4.toNatClampNeg)), (0, .ref (adr Γ (kW i0 + 5))), (1, .ref (adr Γ (kR i1))), (2, .int x2), (3, .int x3)]) hx hb dX3_findPlain_116 hl (k := 5) rfl rfl (by decide) rfl (fun ls hl => ?_)
        refine lv_goto (tgt := 20) hx hb dX3_findPlain_119 (by decide) ?_
        exact ih σ x2 x3 (x4 + 1) h _ _ _ hH (lv_sub hl [2, 3, 4, 5, 0] rfl)
      · replace h := if_t h hc
        refine lv_aload_n hx hb dX3_findPlain_48 rfl (lv_at hl 2 rfl) ?_
        refine r_get X.1 hH (kR_lt hi1) (dR0 _ hi1) rfl inlX5 6 (by decide) (v := .ref (adr Γ (kR i1 + 5))) rfl mw_491 dX3_findPlain_49 ?_
        refine lv_iload hx hb dX3_findPlain_52 (lv_at hl 0 rfl) ?_
        obtain ⟨hg103, h⟩ := chk_some h
        refine r_zld X.1 hH (lR _ hi1 5 (by decide)) (dR5 _ hi1) hg103 dX3_findPlain_54 ?_
        refine lv_if_ne (tgt := 116) hx hb dX3_findPlain_55 (by decide) (fun hc => ?_) (fun hc => ?_)
        · replace h := if_f h hc
          refine lv_iinc (v := x4 + 1) (lv' := [(4, .int (x4 + 1)), (5, .int (σ.1 21 i0 x4.toNatClampNeg)), (0, .ref (adr Γ (kW i0 + 5))), (1, .ref (adr Γ (kR i1))), (2, .int x2), (3, .int x3)]) hx hb dX3_findPlain_116 hl (k := 5) rfl rfl (by decide) rfl (fun ls hl => ?_)
          refine lv_goto (tgt := 20) hx hb dX3_findPlain_119 (by decide) ?_
          exact ih σ x2 x3 (x4 + 1) h _ _ _ hH (lv_sub hl [2, 3, 4, 5, 0] rfl)
        · replace h := if_t h hc
          refine lv_aload_n hx hb dX3_findPlain_58 rfl (lv_at hl 1 rfl) ?_
          refine lv_aload_n hx hb dX3_findPlain_59 rfl (lv_at hl 1 rfl) ?_
          refine r_get X.1 hH (lW _ hi0 5 (by decide)) (dW5 _ hi0) rfl inlX3 4 (by decide) (v := .ref (adr Γ (kW i0 + 8))) rfl mw_117 dX3_findPlain_60 ?_
          refine lv_iconst (v := 2) hx hb dX3_findPlain_63 (by decide) ?_
          refine lv_iload hx hb dX3_findPlain_64 (lv_at hl 0 rfl) ?_
          refine lv_imul hx hb dX3_findPlain_66 ?_
          obtain ⟨hg104, h⟩ := chk_some h
          refine r_ild X.1 hH (lW _ hi0 8 (by decide)) (dW8 _ hi0) hg104 dX3_findPlain_67 ?_
          obtain ⟨r106, hq105, h⟩ := bnd_some h
          refine r_callVI X.1 hl hH (As := [.int (σ.1 22 i0 ((2 : Int32) * (σ.1 21 i0 x4.toNatClampNeg)).toNatClampNeg)]) (rest := []) (c_X3_isNoCall l X.1.2.2.2.2.2.2.1 σ i0 hi0 (σ.1 22 i0 ((2 : Int32) * (σ.1 21 i0 x4.toNatClampNeg)).toNatClampNeg) _ hq105) (cw_V X.1 1 mw_496 mw_493 mw_494 mw_495 mw_77 rfl rfl (by decide +kernel) ⟨Nat.le_of_ble_eq_true rfl, Nat.le_of_ble_eq_true rfl⟩) (r_recv X.1 hH (lW _ hi0 5 (by decide)) (dW5 _ hi0) rfl) rfl rfl (Nat.le_of_ble_eq_true rfl) dX3_findPlain_68 ⟨Nat.zero_le _, Nat.zero_le _⟩ (fun H locs hH => ?_)
          refine lv_if_eq (tgt := 116) hx hb dX3_findPlain_71 (by decide) (fun hc => ?_) (fun hc => ?_)
          · replace h := if_t h hc
            refine lv_iinc (v := x4 + 1) (lv' := [(4, .int (x4 + 1)), (5, .int (σ.1 21 i0 x4.toNatClampNeg)), (0, .ref (adr Γ (kW i0 + 5))), (1, .ref (adr Γ (kR i1))), (2, .int x2), (3, .int x3)]) hx hb dX3_findPlain_116 hl (k := 5) rfl rfl (by decide) rfl (fun ls hl => ?_)
            refine lv_goto (tgt := 20) hx hb dX3_findPlain_119 (by decide) ?_
            exact ih σ x2 x3 (x4 + 1) h _ _ _ hH (lv_sub hl [2, 3, 4, 5, 0] rfl)
          · replace h := if_f h hc
            refine lv_aload_n hx hb dX3_findPlain_74 rfl (lv_at hl 1 rfl) ?_
            refine lv_aload_n hx hb dX3_findPlain_75 rfl (lv_at hl 1 rfl) ?_
            refine r_get X.1 hH (lW _ hi0 5 (by decide)) (dW5 _ hi0) rfl inlX3 4 (by decide) (v := .ref (adr Γ (kW i0 + 8))) rfl mw_117 dX3_findPlain_76 ?_
            refine lv_iconst (v := 2) hx hb dX3_findPlain_79 (by decide) ?_
            refine lv_iload hx hb dX3_findPlain_80 (lv_at hl 0 rfl) ?_
            refine lv_imul hx hb dX3_findPlain_82 ?_
            refine lv_iconst (v := 1) hx hb dX3_findPlain_83 (by decide) ?_
            refine lv_iadd hx hb dX3_findPlain_84 ?_
            obtain ⟨hg108, h⟩ := chk_some h
            refine r_ild X.1 hH (lW _ hi0 8 (by decide)) (dW8 _ hi0) hg108 dX3_findPlain_85 ?_
            obtain ⟨r110, hq109, h⟩ := bnd_some h
            refine r_callVI X.1 hl hH (As := [.int (σ.1 22 i0 (((2 : Int32) * (σ.1 21 i0 x4.toNatClampNeg)) + (1 : Int32)).toNatClampNeg)]) (rest := []) (c_X3_isNoCall l X.1.2.2.2.2.2.2.1 σ i0 hi0 (σ.1 22 i0 (((2 : Int32) * (σ.1 21 i0 x4.toNatClampNeg)) + (1 : Int32)).toNatClampNeg) _ hq109) (cw_V X.1 1 mw_496 mw_493 mw_494 mw_495 mw_77 rfl rfl (by decide +kernel) ⟨Nat.le_of_ble_eq_true rfl, Nat.le_of_ble_eq_true rfl⟩) (r_recv X.1 hH (lW _ hi0 5 (by decide)) (dW5 _ hi0) rfl) rfl rfl (Nat.le_of_ble_eq_true rfl) dX3_findPlain_86 ⟨Nat.zero_le _, Nat.zero_le _⟩ (fun H locs hH => ?_)
            refine lv_if_eq (tgt := 116) hx hb dX3_findPlain_89 (by decide) (fun hc => ?_) (fun hc => ?_)
            · replace h := if_t h hc
              refine lv_iinc (v := x4 + 1) (lv' := [(4, .int (x4 + 1)), (5, .int (σ.1 21 i0 x4.toNatClampNeg)), (0, .ref (adr Γ (kW i0 + 5))), (1, .ref (adr Γ (kR i1))), (2, .int x2), (3, .int x3)]) hx hb dX3_findPlain_116 hl (k := 5) rfl rfl (by decide) rfl (fun ls hl => ?_)
              refine lv_goto (tgt := 20) hx hb dX3_findPlain_119 (by decide) ?_
              exact ih σ x2 x3 (x4 + 1) h _ _ _ hH (lv_sub hl [2, 3, 4, 5, 0] rfl)
            · replace h := if_f h hc
              refine lv_aload_n hx hb dX3_findPlain_92 rfl (lv_at hl 2 rfl) ?_
              refine r_get X.1 hH (kR_lt hi1) (dR0 _ hi1) rfl inlX5 6 (by decide) (v := .ref (adr Γ (kR i1 + 5))) rfl mw_491 dX3_findPlain_93 ?_
              refine lv_iload hx hb dX3_findPlain_96 (lv_at hl 0 rfl) ?_
              refine lv_iconst (v := 1) hx hb dX3_findPlain_98 (by decide) ?_
              obtain ⟨hg112, h⟩ := chk_some h
              obtain ⟨σ113, e114, h⟩ := st_some h
              refine r_zst X.1 hH (lR _ hi1 5 (by decide)) (dR5 _ hi1) hg112 rfl dX3_findPlain_99 (fun H locs hH => ?_)
              replace hH : HW (IA Γ) Γ σ113 s.heap H locs := by rw [e114]; exact hH
              refine lv_aload_n hx hb dX3_findPlain_100 rfl (lv_at hl 2 rfl) ?_
              refine r_get X.1 hH (kR_lt hi1) (dR0 _ hi1) rfl inlX5 7 (by decide) (v := .ref (adr Γ (kR i1 + 6))) rfl mw_492 dX3_findPlain_101 ?_
              refine lv_iload hx hb dX3_findPlain_104 (lv_at hl 0 rfl) ?_
              refine lv_aload_n hx hb dX3_findPlain_106 rfl (lv_at hl 1 rfl) ?_
              refine lv_aload_n hx hb dX3_findPlain_107 rfl (lv_at hl 2 rfl) ?_
              refine lv_iload hx hb dX3_findPlain_108 (lv_at hl 0 rfl) ?_
              obtain ⟨r116, hq115, h⟩ := bnd_some h
              refine r_callVI X.1 hl hH (As := [.ref (adr Γ (kR i1)), .int (σ.1 21 i0 x4.toNatClampNeg)]) (rest := [.int (σ.1 21 i0 x4.toNatClampNeg), .ref (adr Γ (kR i1 + 6))]) (c_X3_numberWithTargets l X.1.2.2.2.2.2.2.1 σ113 i0 hi0 i1 hi1 (σ.1 21 i0 x4.toNatClampNeg) _ hq115) (cw_V X.1 2 mw_500 mw_497 mw_498 mw_499 mw_77 rfl rfl (by decide +kernel) ⟨Nat.le_of_ble_eq_true rfl, Nat.le_of_ble_eq_true rfl⟩) (r_recv X.1 hH (lW _ hi0 5 (by decide)) (dW5 _ hi0) rfl) rfl rfl (Nat.le_of_ble_eq_true rfl) dX3_findPlain_110 ⟨Nat.zero_le _, Nat.zero_le _⟩ (fun H locs hH => ?_)
              obtain ⟨hg118, h⟩ := chk_some h
              obtain ⟨σ119, e120, h⟩ := st_some h
              refine r_ist X.1 hH (lR _ hi1 6 (by decide)) (dR6 _ hi1) hg118 dX3_findPlain_113 (fun H locs hH => ?_)
              replace hH : HW (IA Γ) Γ σ119 s.heap H locs := by rw [e120]; exact hH
              refine lv_iconst (v := 1) hx hb dX3_findPlain_114 (by decide) ?_
              refine lv_istore_n (lv' := [(2, .int 1), (5, .int (σ.1 21 i0 x4.toNatClampNeg)), (0, .ref (adr Γ (kW i0 + 5))), (1, .ref (adr Γ (kR i1))), (3, .int x3), (4, .int x4)]) hx hb dX3_findPlain_115 rfl hl (by decide) rfl (fun ls hl => ?_)
              refine lv_iinc (v := x4 + 1) (lv' := [(4, .int (x4 + 1)), (2, .int 1), (5, .int (σ.1 21 i0 x4.toNatClampNeg)), (0, .ref (adr Γ (kW i0 + 5))), (1, .ref (adr Γ (kR i1))), (3, .int x3)]) hx hb dX3_findPlain_116 hl (k := 5) rfl rfl (by decide) rfl (fun ls hl => ?_)
              refine lv_goto (tgt := 20) hx hb dX3_findPlain_119 (by decide) ?_
              exact ih σ119 1 x3 (x4 + 1) h _ _ _ hH (lv_sub hl [3, 4, 1, 5, 0] rfl)
def m_X3_findPlain_4 (i0 : Nat) (i1 : Nat)  : Nat → Sg → Int32 → Int32 → Option Sg
  | 0, _, _, _ => none
  | n + 1, σ, x2, x3 => if 128 < x3 then some σ else if x2 = 0 then some σ else m_X3_findPlain_20 i0 i1 (m_X3_findPlain_4 i0 i1 n) 1000 σ 0 x3 0
set_option maxHeartbeats 4000000 in
set_option maxRecDepth 100000 in
theorem b_X3_findPlain_4 {p : Program} {l : Launch} {e : Env} {s : State} {m : MethodId} {args : Array Value} {below : List Frame} {meth : Method} {c : Code} {Γ : GG} (X : MB Γ p s m args meth c cX3_findPlain 6 RX3 none) {σf : Sg} {rf : Unit} (i0 : Nat) (hi0 : i0 < 2) (i1 : Nat) (hi1 : i1 < 30) : ∀ (n : Nat), (∀ (σ : Sg) (x2 : Int32) (x3 : Int32), (m_X3_findPlain_4 i0 i1 n) σ x2 x3 = some σf → ∀ (H : Heap) (locs : List Loc) (ls : Array Slot), HW (IA Γ) Γ σ s.heap H locs → lv_has ls 6 [(0, .ref (adr Γ (kW i0 + 5))), (1, .ref (adr Γ (kR i1))), (2, .int x2), (3, .int x3)] → W p l e ({ frames := 2, cells := 0, slots := 0, locals := 46 } : Room) s m args below meth c H locs 0 0 (QV Γ σf rf below args s) (F0 m 4 ls [])) := by
  have hx := X.1.1
  have hb := X.1.2.1
  intro n
  induction n with
  | zero => intro σ x2 x3 h; rw [m_X3_findPlain_4] at h; cases h
  | succ n ih =>
    intro σ x2 x3 h H locs ls hH hl
    rw [m_X3_findPlain_4] at h
    refine lv_iload_n hx hb dX3_findPlain_4 rfl (lv_at hl 3 rfl) ?_
    refine lv_sipush (v := 128) hx hb dX3_findPlain_5 (by decide) ?_
    refine lv_icmp_gt (tgt := 128) hx hb dX3_findPlain_8 (by decide) (fun hc => ?_) (fun hc => ?_)
    · replace h := if_t h hc
      cases h
      exact e_void (v := rf) X hH dX3_findPlain_128
    · replace h := if_f h hc
      refine lv_iload_n hx hb dX3_findPlain_11 rfl (lv_at hl 2 rfl) ?_
      refine lv_if_eq (tgt := 128) hx hb dX3_findPlain_12 (by decide) (fun hc => ?_) (fun hc => ?_)
      · replace h := if_t h hc
        cases h
        exact e_void (v := rf) X hH dX3_findPlain_128
      · replace h := if_f h hc
        refine lv_iconst (v := 0) hx hb dX3_findPlain_15 (by decide) ?_
        refine lv_istore_n (lv' := [(2, .int 0), (0, .ref (adr Γ (kW i0 + 5))), (1, .ref (adr Γ (kR i1))), (3, .int x3)]) hx hb dX3_findPlain_16 rfl hl (by decide) rfl (fun ls hl => ?_)
        refine lv_iconst (v := 0) hx hb dX3_findPlain_17 (by decide) ?_
        refine lv_istore (lv' := [(4, .int 0), (2, .int 0), (0, .ref (adr Γ (kW i0 + 5))), (1, .ref (adr Γ (kR i1))), (3, .int x3)]) hx hb dX3_findPlain_18 hl (by decide) rfl (fun ls hl => ?_)
        exact b_X3_findPlain_20 (rf := ()) X i0 hi0 i1 hi1 (m_X3_findPlain_4 i0 i1 n) ih 1000 σ 0 x3 0 h _ _ _ hH (lv_sub hl [2, 3, 1, 4, 0] rfl)
/-- CutoffMill$Maker.findPlain(LCutoffMill$Result;)V -/
def m_X3_findPlain (σ : Sg) (i0 : Nat) (i1 : Nat) : Option Sg := m_X3_findPlain_4 i0 i1 1000 σ 1 0
set_option maxHeartbeats 4000000 in
set_option maxRecDepth 100000 in
theorem c_X3_findPlain (l : Launch) {Γ : GG} (hJ : IJ Γ) (σ : Sg) (i0 : Nat) (hi0 : i0 < 2) (i1 : Nat) (hi1 : i1 < 30) (σf : Sg) (rf : Unit) (h : m_X3_findPlain σ i0 i1 = some σf) : CV l yX3_findPlain (wy yX3_findPlain cX3_findPlain 6 none) { frames := 2, cells := 0, slots := 0, locals := 46 } Γ σ [.ref (adr Γ (kW i0 + 5)), .ref (adr Γ (kR i1))] σf rf := by
  refine met_of (by decide +kernel) hJ (Nat.le_of_ble_eq_true rfl) (fun p e s m below meth c ls X hH hl => ?_)
  have hl : lv_has ls 6 [(0, .ref (adr Γ (kW i0 + 5))), (1, .ref (adr Γ (kR i1)))] := hl
  have hx := X.1.1
  have hb := X.1.2.1
  rw [m_X3_findPlain] at h
  refine lv_iconst (v := 1) hx hb dX3_findPlain_0 (by decide) ?_
  refine lv_istore_n (lv' := [(2, .int 1), (0, .ref (adr Γ (kW i0 + 5))), (1, .ref (adr Γ (kR i1)))]) hx hb dX3_findPlain_1 rfl hl (by decide) rfl (fun ls hl => ?_)
  refine lv_iconst (v := 0) hx hb dX3_findPlain_2 (by decide) ?_
  refine lv_istore_n (lv' := [(3, .int 0), (2, .int 1), (0, .ref (adr Γ (kW i0 + 5))), (1, .ref (adr Γ (kR i1)))]) hx hb dX3_findPlain_3 rfl hl (by decide) rfl (fun ls hl => ?_)
  exact b_X3_findPlain_4 (rf := ()) X i0 hi0 i1 hi1  1000 σ 1 0 h _ _ _ hH (lv_sub hl [2, 3, 1, 0] rfl)
/-- CutoffMill$Maker.addCall(LCutoffMill$Result;II)V -/
def m_X3_addCall (σ : Sg) (i0 : Nat) (i1 : Nat) (x2 : Int32) (x3 : Int32) : Option Sg := bnd (m_X3_isNoCall σ i0 x3) (fun r102 => if r102 = 0 then chk (inb x2 128) (if (σ.1 35 i1 x2.toNatClampNeg) = ((-1)) then chk (inb x2 128) (st (wI σ 35 i1 x2.toNatClampNeg x3) (fun σ109 => some σ109)) else chk (inb x2 128) (st (wI σ 36 i1 x2.toNatClampNeg x3) (fun σ106 => some σ106))) else some σ)
set_option maxHeartbeats 4000000 in
set_option maxRecDepth 100000 in
theorem c_X3_addCall (l : Launch) {Γ : GG} (hJ : IJ Γ) (σ : Sg) (i0 : Nat) (hi0 : i0 < 2) (i1 : Nat) (hi1 : i1 < 30) (x2 : Int32) (x3 : Int32) (σf : Sg) (rf : Unit) (h : m_X3_addCall σ i0 i1 x2 x3 = some σf) : CV l yX3_addCall (wy yX3_addCall cX3_addCall 4 none) { frames := 1, cells := 0, slots := 0, locals := 21 } Γ σ [.ref (adr Γ (kW i0 + 5)), .ref (adr Γ (kR i1)), .int x2, .int x3] σf rf := by
  refine met_of (by decide +kernel) hJ (Nat.le_of_ble_eq_true rfl) (fun p e s m below meth c ls X hH hl => ?_)
  have hl : lv_has ls 4 [(0, .ref (adr Γ (kW i0 + 5))), (1, .ref (adr Γ (kR i1))), (2, .int x2), (3, .int x3)] := hl
  have hx := X.1.1
  have hb := X.1.2.1
  rw [m_X3_addCall] at h
  refine lv_aload_n hx hb dX3_addCall_0 rfl (lv_at hl 0 rfl) ?_
  refine lv_iload_n hx hb dX3_addCall_1 rfl (lv_at hl 3 rfl) ?_
  obtain ⟨r102, hq101, h⟩ := bnd_some h
  refine r_callVI X.1 hl hH (As := [.int x3]) (rest := []) (c_X3_isNoCall l X.1.2.2.2.2.2.2.1 σ i0 hi0 x3 _ hq101) (cw_V X.1 1 mw_496 mw_493 mw_494 mw_495 mw_77 rfl rfl (by decide +kernel) ⟨Nat.le_of_ble_eq_true rfl, Nat.le_of_ble_eq_true rfl⟩) (r_recv X.1 hH (lW _ hi0 5 (by decide)) (dW5 _ hi0) rfl) rfl rfl (Nat.le_of_ble_eq_true rfl) dX3_addCall_2 ⟨Nat.zero_le _, Nat.zero_le _⟩ (fun H locs hH => ?_)
  refine lv_if_eq (tgt := 9) hx hb dX3_addCall_5 (by decide) (fun hc => ?_) (fun hc => ?_)
  · replace h := if_t h hc
    refine lv_aload_n hx hb dX3_addCall_9 rfl (lv_at hl 1 rfl) ?_
    refine r_get X.1 hH (kR_lt hi1) (dR0 _ hi1) rfl inlX5 8 (by decide) (v := .ref (adr Γ (kR i1 + 7))) rfl mw_512 dX3_addCall_10 ?_
    refine lv_iload_n hx hb dX3_addCall_13 rfl (lv_at hl 2 rfl) ?_
    obtain ⟨hg104, h⟩ := chk_some h
    refine r_ild X.1 hH (lR _ hi1 7 (by decide)) (dR7 _ hi1) hg104 dX3_addCall_14 ?_
    refine lv_iconst (v := (-1)) hx hb dX3_addCall_15 (by decide) ?_
    refine lv_icmp_ne (tgt := 29) hx hb dX3_addCall_16 (by decide) (fun hc => ?_) (fun hc => ?_)
    · replace h := if_f h hc
      refine lv_aload_n hx hb dX3_addCall_29 rfl (lv_at hl 1 rfl) ?_
      refine r_get X.1 hH (kR_lt hi1) (dR0 _ hi1) rfl inlX5 9 (by decide) (v := .ref (adr Γ (kR i1 + 8))) rfl mw_513 dX3_addCall_30 ?_
      refine lv_iload_n hx hb dX3_addCall_33 rfl (lv_at hl 2 rfl) ?_
      refine lv_iload_n hx hb dX3_addCall_34 rfl (lv_at hl 3 rfl) ?_
      obtain ⟨hg105, h⟩ := chk_some h
      obtain ⟨σ106, e107, h⟩ := st_some h
      refine r_ist X.1 hH (lR _ hi1 8 (by decide)) (dR8 _ hi1) hg105 dX3_addCall_35 (fun H locs hH => ?_)
      replace hH : HW (IA Γ) Γ σ106 s.heap H locs := by rw [e107]; exact hH
      cases h
      exact e_void (v := rf) X hH dX3_addCall_36
    · replace h := if_t h hc
      refine lv_aload_n hx hb dX3_addCall_19 rfl (lv_at hl 1 rfl) ?_
      refine r_get X.1 hH (kR_lt hi1) (dR0 _ hi1) rfl inlX5 8 (by decide) (v := .ref (adr Γ (kR i1 + 7))) rfl mw_512 dX3_addCall_20 ?_
      refine lv_iload_n hx hb dX3_addCall_23 rfl (lv_at hl 2 rfl) ?_
      refine lv_iload_n hx hb dX3_addCall_24 rfl (lv_at hl 3 rfl) ?_
      obtain ⟨hg108, h⟩ := chk_some h
      obtain ⟨σ109, e110, h⟩ := st_some h
      refine r_ist X.1 hH (lR _ hi1 7 (by decide)) (dR7 _ hi1) hg108 dX3_addCall_25 (fun H locs hH => ?_)
      replace hH : HW (IA Γ) Γ σ109 s.heap H locs := by rw [e110]; exact hH
      refine lv_goto (tgt := 36) hx hb dX3_addCall_26 (by decide) ?_
      cases h
      exact e_void (v := rf) X hH dX3_addCall_36
  · replace h := if_f h hc
    cases h
    exact e_void (v := rf) X hH dX3_addCall_8
def m_X3_findCalls_2 (i0 : Nat) (i1 : Nat)  : Nat → Sg → Int32 → Option Sg
  | 0, _, _ => none
  | n + 1, σ, x2 => if (σ.1 20 i0 0) ≤ x2 then some σ else chk (inb x2 128) (chk (inb (σ.1 21 i0 x2.toNatClampNeg) 128) (if (σ.1 31 i1 (σ.1 21 i0 x2.toNatClampNeg).toNatClampNeg) = 0 then chk (inb (σ.1 21 i0 x2.toNatClampNeg) 128) (if (σ.1 33 i1 (σ.1 21 i0 x2.toNatClampNeg).toNatClampNeg) = 0 then bnd (m_X3_numberWithTargets σ i0 i1 (σ.1 21 i0 x2.toNatClampNeg)) (fun r105 => chk (inb (σ.1 21 i0 x2.toNatClampNeg) 128) (st (wI σ 34 i1 (σ.1 21 i0 x2.toNatClampNeg).toNatClampNeg r105) (fun σ108 => chk (inb ((2 : Int32) * (σ.1 21 i0 x2.toNatClampNeg)) 256) (bnd (m_X3_addCall σ108 i0 i1 (σ.1 21 i0 x2.toNatClampNeg) (σ108.1 22 i0 ((2 : Int32) * (σ.1 21 i0 x2.toNatClampNeg)).toNatClampNeg)) (fun σ113 => chk (inb (((2 : Int32) * (σ.1 21 i0 x2.toNatClampNeg)) + (1 : Int32)) 256) (bnd (m_X3_addCall σ113 i0 i1 (σ.1 21 i0 x2.toNatClampNeg) (σ113.1 22 i0 (((2 : Int32) * (σ.1 21 i0 x2.toNatClampNeg)) + (1 : Int32)).toNatClampNeg)) (fun σ117 => m_X3_findCalls_2 i0 i1 n σ117 (x2 + 1)))))))) else m_X3_findCalls_2 i0 i1 n σ (x2 + 1)) else m_X3_findCalls_2 i0 i1 n σ (x2 + 1)))
set_option maxHeartbeats 4000000 in
set_option maxRecDepth 100000 in
theorem b_X3_findCalls_2 {p : Program} {l : Launch} {e : Env} {s : State} {m : MethodId} {args : Array Value} {below : List Frame} {meth : Method} {c : Code} {Γ : GG} (X : MB Γ p s m args meth c cX3_findCalls 4 RX3 none) {σf : Sg} {rf : Unit} (i0 : Nat) (hi0 : i0 < 2) (i1 : Nat) (hi1 : i1 < 30) : ∀ (n : Nat), (∀ (σ : Sg) (x2 : Int32), (m_X3_findCalls_2 i0 i1 n) σ x2 = some σf → ∀ (H : Heap) (locs : List Loc) (ls : Array Slot), HW (IA Γ) Γ σ s.heap H locs → lv_has ls 4 [(0, .ref (adr Γ (kW i0 + 5))), (1, .ref (adr Γ (kR i1))), (2, .int x2)] → W p l e ({ frames := 2, cells := 0, slots := 0, locals := 46 } : Room) s m args below meth c H locs 0 0 (QV Γ σf rf below args s) (F0 m 2 ls [])) := by
  have hx := X.1.1
  have hb := X.1.2.1
  intro n
  induction n with
  | zero => intro σ x2 h; rw [m_X3_findCalls_2] at h; cases h
  | succ n ih =>
    intro σ x2 h H locs ls hH hl
    rw [m_X3_findCalls_2] at h
    refine lv_iload_n hx hb dX3_findCalls_2 rfl (lv_at hl 2 rfl) ?_
    refine lv_aload_n hx hb dX3_findCalls_3 rfl (lv_at hl 0 rfl) ?_
    refine r_get X.1 hH (lW _ hi0 5 (by decide)) (dW5 _ hi0) rfl inlX3 3 (by decide) (v := .int (σ.1 20 i0 0)) rfl mw_445 dX3_findCalls_4 ?_
    refine lv_icmp_ge (tgt := 83) hx hb dX3_findCalls_7 (by decide) (fun hc => ?_) (fun hc => ?_)
    · replace h := if_t h hc
      cases h
      exact e_void (v := rf) X hH dX3_findCalls_83
    · replace h := if_f h hc
      refine lv_aload_n hx hb dX3_findCalls_10 rfl (lv_at hl 0 rfl) ?_
      refine r_get X.1 hH (lW _ hi0 5 (by decide)) (dW5 _ hi0) rfl inlX3 2 (by decide) (v := .ref (adr Γ (kW i0 + 7))) rfl mw_116 dX3_findCalls_11 ?_
      refine lv_iload_n hx hb dX3_findCalls_14 rfl (lv_at hl 2 rfl) ?_
      obtain ⟨hg101, h⟩ := chk_some h
      refine r_ild X.1 hH (lW _ hi0 7 (by decide)) (dW7 _ hi0) hg101 dX3_findCalls_15 ?_
      refine lv_istore_n (lv' := [(3, .int (σ.1 21 i0 x2.toNatClampNeg)), (0, .ref (adr Γ (kW i0 + 5))), (1, .ref (adr Γ (kR i1))), (2, .int x2)]) hx hb dX3_findCalls_16 rfl hl (by decide) rfl (fun ls hl => ?_)
      refine lv_aload_n hx hb dX3_findCalls_17 rfl (lv_at hl 2 rfl) ?_
      refine r_get X.1 hH (kR_lt hi1) (dR0 _ hi1) rfl inlX5 4 (by decide) (v := .ref (adr Γ (kR i1 + 3))) rfl mw_446 dX3_findCalls_18 ?_
      refine lv_iload_n hx hb dX3_findCalls_21 rfl (lv_at hl 0 rfl) ?_
      obtain ⟨hg102, h⟩ := chk_some h
      refine r_ild X.1 hH (lR _ hi1 3 (by decide)) (dR3 _ hi1) hg102 dX3_findCalls_22 ?_
      refine lv_if_ne (tgt := 77) hx hb dX3_findCalls_23 (by decide) (fun hc => ?_) (fun hc => ?_)
      · replace h := if_f h hc
        refine lv_iinc (v := x2 + 1) (lv' := [(2, .int (x2 + 1)), (3, .int (σ.1 21 i0 x2.toNatClampNeg)), (0, .ref (adr Γ (kW i0 + 5))), (1, .ref (adr Γ (kR i1)))]) hx hb dX3_findCalls_77 hl (k := 3) rfl rfl (by decide) rfl (fun ls hl => ?_)
        refine lv_goto (tgt := 2) hx hb dX3_findCalls_80 (by decide) ?_
        exact ih σ (x2 + 1) h _ _ _ hH (lv_sub hl [2, 3, 0] rfl)
      · replace h := if_t h hc
        refine lv_aload_n hx hb dX3_findCalls_26 rfl (lv_at hl 2 rfl) ?_
        refine r_get X.1 hH (kR_lt hi1) (dR0 _ hi1) rfl inlX5 6 (by decide) (v := .ref (adr Γ (kR i1 + 5))) rfl mw_491 dX3_findCalls_27 ?_
        refine lv_iload_n hx hb dX3_findCalls_30 rfl (lv_at hl 0 rfl) ?_
        obtain ⟨hg103, h⟩ := chk_some h
        refine r_zld X.1 hH (lR _ hi1 5 (by decide)) (dR5 _ hi1) hg103 dX3_findCalls_31 ?_
        refine lv_if_ne (tgt := 77) hx hb dX3_findCalls_32 (by decide) (fun hc => ?_) (fun hc => ?_)
        · replace h := if_f h hc
          refine lv_iinc (v := x2 + 1) (lv' := [(2, .int (x2 + 1)), (3, .int (σ.1 21 i0 x2.toNatClampNeg)), (0, .ref (adr Γ (kW i0 + 5))), (1, .ref (adr Γ (kR i1)))]) hx hb dX3_findCalls_77 hl (k := 3) rfl rfl (by decide) rfl (fun ls hl => ?_)
          refine lv_goto (tgt := 2) hx hb dX3_findCalls_80 (by decide) ?_
          exact ih σ (x2 + 1) h _ _ _ hH (lv_sub hl [2, 3, 0] rfl)
        · replace h := if_t h hc
          refine lv_aload_n hx hb dX3_findCalls_35 rfl (lv_at hl 2 rfl) ?_
          refine r_get X.1 hH (kR_lt hi1) (dR0 _ hi1) rfl inlX5 7 (by decide) (v := .ref (adr Γ (kR i1 + 6))) rfl mw_492 dX3_findCalls_36 ?_
          refine lv_iload_n hx hb dX3_findCalls_39 rfl (lv_at hl 0 rfl) ?_
          refine lv_aload_n hx hb dX3_findCalls_40 rfl (lv_at hl 1 rfl) ?_
          refine lv_aload_n hx hb dX3_findCalls_41 rfl (lv_at hl 2 rfl) ?_
          refine lv_iload_n hx hb dX3_findCalls_42 rfl (lv_at hl 0 rfl) ?_
          obtain ⟨r105, hq104, h⟩ := bnd_some h
          refine r_callVI X.1 hl hH (As := [.ref (adr Γ (kR i1)), .int (σ.1 21 i0 x2.toNatClampNeg)]) (rest := [.int (σ.1 21 i0 x2.toNatClampNeg), .ref (adr Γ (kR i1 + 6))]) (c_X3_numberWithTargets l X.1.2.2.2.2.2.2.1 σ i0 hi0 i1 hi1 (σ.1 21 i0 x2.toNatClampNeg) _ hq104) (cw_V X.1 2 mw_500 mw_497 mw_498 mw_499 mw_77 rfl rfl (by decide +kernel) ⟨Nat.le_of_ble_eq_true rfl, Nat.le_of_ble_eq_true rfl⟩) (r_recv X.1 hH (lW _ hi0 5 (by decide)) (dW5 _ hi0) rfl) rfl rfl (Nat.le_of_ble_eq_true rfl) dX3_findCalls_43 ⟨Nat.zero_le _, Nat.zero_le _⟩ (fun H locs hH => ?_)
          obtain ⟨hg107, h⟩ := chk_some h
          obtain ⟨σ108, e109, h⟩ := st_some h
          refine r_ist X.1 hH (lR _ hi1 6 (by decide)) (dR6 _ hi1) hg107 dX3_findCalls_46 (fun H locs hH => ?_)
          replace hH : HW (IA Γ) Γ σ108 s.heap H locs := by rw [e109]; exact hH
          refine lv_aload_n hx hb dX3_findCalls_47 rfl (lv_at hl 1 rfl) ?_
          refine lv_aload_n hx hb dX3_findCalls_48 rfl (lv_at hl 2 rfl) ?_
          refine lv_iload_n hx hb dX3_findCalls_49 rfl (lv_at hl 0 rfl) ?_
          refine lv_aload_n hx hb dX3_findCalls_50 rfl (lv_at hl 1 rfl) ?_
          refine r_get X.1 hH (lW _ hi0 5 (by decide)) (dW5 _ hi0) rfl inlX3 4 (by decide) (v := .ref (adr Γ (kW i0 + 8))) rfl mw_117 dX3_findCalls_51 ?_
          refine lv_iconst (v := 2) hx hb dX3_findCalls_54 (by decide) ?_
          refine lv_iload_n hx hb dX3_findCalls_55 rfl (lv_at hl 0 rfl) ?_
          refine lv_imul hx hb dX3_findCalls_56 ?_
          obtain ⟨hg110, h⟩ := chk_some h
          refine r_ild X.1 hH (lW _ hi0 8 (by decide)) (dW8 _ hi0) hg110 dX3_findCalls_57 ?_
          obtain ⟨σ113, hq111, h⟩ := bnd_some h
          refine r_callVV X.1 hl hH (r := ()) (As := [.ref (adr Γ (kR i1)), .int (σ.1 21 i0 x2.toNatClampNeg), .int (σ108.1 22 i0 ((2 : Int32) * (σ.1 21 i0 x2.toNatClampNeg)).toNatClampNeg)]) (rest := []) (c_X3_addCall l X.1.2.2.2.2.2.2.1 σ108 i0 hi0 i1 hi1 (σ.1 21 i0 x2.toNatClampNeg) (σ108.1 22 i0 ((2 : Int32) * (σ.1 21 i0 x2.toNatClampNeg)).toNatClampNeg) _ () hq111) (cw_V X.1 3 mw_511 mw_508 mw_509 mw_510 mw_77 rfl rfl (by decide +kernel) ⟨Nat.le_of_ble_eq_true rfl, Nat.le_of_ble_eq_true rfl⟩) (r_recv X.1 hH (lW _ hi0 5 (by decide)) (dW5 _ hi0) rfl) rfl rfl (Nat.le_of_ble_eq_true rfl) dX3_findCalls_58 ⟨Nat.zero_le _, Nat.zero_le _⟩ (fun H locs hH => ?_)
          refine lv_aload_n hx hb dX3_findCalls_61 rfl (lv_at hl 1 rfl) ?_
          refine lv_aload_n hx hb dX3_findCalls_62 rfl (lv_at hl 2 rfl) ?_
          refine lv_iload_n hx hb dX3_findCalls_63 rfl (lv_at hl 0 rfl) ?_
          refine lv_aload_n hx hb dX3_findCalls_64 rfl (lv_at hl 1 rfl) ?_
          refine r_get X.1 hH (lW _ hi0 5 (by decide)) (dW5 _ hi0) rfl inlX3 4 (by decide) (v := .ref (adr Γ (kW i0 + 8))) rfl mw_117 dX3_findCalls_65 ?_
          refine lv_iconst (v := 2) hx hb dX3_findCalls_68 (by decide) ?_
          refine lv_iload_n hx hb dX3_findCalls_69 rfl (lv_at hl 0 rfl) ?_
          refine lv_imul hx hb dX3_findCalls_70 ?_
          refine lv_iconst (v := 1) hx hb dX3_findCalls_71 (by decide) ?_
          refine lv_iadd hx hb dX3_findCalls_72 ?_
          obtain ⟨hg114, h⟩ := chk_some h
          refine r_ild X.1 hH (lW _ hi0 8 (by decide)) (dW8 _ hi0) hg114 dX3_findCalls_73 ?_
          obtain ⟨σ117, hq115, h⟩ := bnd_some h
          refine r_callVV X.1 hl hH (r := ()) (As := [.ref (adr Γ (kR i1)), .int (σ.1 21 i0 x2.toNatClampNeg), .int (σ113.1 22 i0 (((2 : Int32) * (σ.1 21 i0 x2.toNatClampNeg)) + (1 : Int32)).toNatClampNeg)]) (rest := []) (c_X3_addCall l X.1.2.2.2.2.2.2.1 σ113 i0 hi0 i1 hi1 (σ.1 21 i0 x2.toNatClampNeg) (σ113.1 22 i0 (((2 : Int32) * (σ.1 21 i0 x2.toNatClampNeg)) + (1 : Int32)).toNatClampNeg) _ () hq115) (cw_V X.1 3 mw_511 mw_508 mw_509 mw_510 mw_77 rfl rfl (by decide +kernel) ⟨Nat.le_of_ble_eq_true rfl, Nat.le_of_ble_eq_true rfl⟩) (r_recv X.1 hH (lW _ hi0 5 (by decide)) (dW5 _ hi0) rfl) rfl rfl (Nat.le_of_ble_eq_true rfl) dX3_findCalls_74 ⟨Nat.zero_le _, Nat.zero_le _⟩ (fun H locs hH => ?_)
          refine lv_iinc (v := x2 + 1) (lv' := [(2, .int (x2 + 1)), (3, .int (σ.1 21 i0 x2.toNatClampNeg)), (0, .ref (adr Γ (kW i0 + 5))), (1, .ref (adr Γ (kR i1)))]) hx hb dX3_findCalls_77 hl (k := 3) rfl rfl (by decide) rfl (fun ls hl => ?_)
          refine lv_goto (tgt := 2) hx hb dX3_findCalls_80 (by decide) ?_
          exact ih σ117 (x2 + 1) h _ _ _ hH (lv_sub hl [2, 3, 0] rfl)
/-- CutoffMill$Maker.findCalls(LCutoffMill$Result;)V -/
def m_X3_findCalls (σ : Sg) (i0 : Nat) (i1 : Nat) : Option Sg := m_X3_findCalls_2 i0 i1 1000 σ 0
set_option maxHeartbeats 4000000 in
set_option maxRecDepth 100000 in
theorem c_X3_findCalls (l : Launch) {Γ : GG} (hJ : IJ Γ) (σ : Sg) (i0 : Nat) (hi0 : i0 < 2) (i1 : Nat) (hi1 : i1 < 30) (σf : Sg) (rf : Unit) (h : m_X3_findCalls σ i0 i1 = some σf) : CV l yX3_findCalls (wy yX3_findCalls cX3_findCalls 4 none) { frames := 2, cells := 0, slots := 0, locals := 46 } Γ σ [.ref (adr Γ (kW i0 + 5)), .ref (adr Γ (kR i1))] σf rf := by
  refine met_of (by decide +kernel) hJ (Nat.le_of_ble_eq_true rfl) (fun p e s m below meth c ls X hH hl => ?_)
  have hl : lv_has ls 4 [(0, .ref (adr Γ (kW i0 + 5))), (1, .ref (adr Γ (kR i1)))] := hl
  have hx := X.1.1
  have hb := X.1.2.1
  rw [m_X3_findCalls] at h
  refine lv_iconst (v := 0) hx hb dX3_findCalls_0 (by decide) ?_
  refine lv_istore_n (lv' := [(2, .int 0), (0, .ref (adr Γ (kW i0 + 5))), (1, .ref (adr Γ (kR i1)))]) hx hb dX3_findCalls_1 rfl hl (by decide) rfl (fun ls hl => ?_)
  exact b_X3_findCalls_2 (rf := ()) X i0 hi0 i1 hi1  1000 σ 0 h _ _ _ hH (lv_sub hl [1, 2, 0] rfl)
