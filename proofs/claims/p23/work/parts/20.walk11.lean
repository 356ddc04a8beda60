/-! WALKS, laid by wip/p23/gen.py: X10_run, X8_allDeclarations, X8_allImports, X9_staleCount, X9_faultCount, X10_many, X9_startFrom, X9_renewAll, X10_wouldBuild, X1_withNumber, X10_builtBy, X9_staleModules -/
/-- CutoffMill.run(II)I -/
def m_X10_run (σ : Sg) (x1 : Int32) (x2 : Int32) : Option (Sg × Int32) := bnd (m_X10_checkModule σ x1) (fun _ => bnd (m_X10_checkWithin σ x2 0 15) (fun _ => bnd2 (m_X10_valueOf σ ((x1 * (16 : Int32)) + x2)) (fun σ109 r108 => some (σ109, r108))))
set_option maxHeartbeats 4000000 in
set_option maxRecDepth 100000 in
theorem c_X10_run (l : Launch) {Γ : GG} (hJ : IJ Γ) (σ : Sg) (x1 : Int32) (x2 : Int32) (σf : Sg) (rf : Int32) (h : m_X10_run σ x1 x2 = some (σf, rf)) : CI l yX10_run (wy yX10_run cX10_run 3 (some .int)) { frames := 2, cells := 0, slots := 0, locals := 50 } Γ σ [.ref (adr Γ 0), .int x1, .int x2] σf rf := by
  refine met_of (by decide +kernel) hJ (Nat.le_of_ble_eq_true rfl) (fun p e s m below meth c ls X hH hl => ?_)
  have hl : lv_has ls 3 [(0, .ref (adr Γ 0)), (1, .int x1), (2, .int x2)] := hl
  have hx := X.1.1
  have hb := X.1.2.1
  rw [m_X10_run] at h
  refine lv_aload_n hx hb dX10_run_0 rfl (lv_at hl 0 rfl) ?_
  refine lv_iload_n hx hb dX10_run_1 rfl (lv_at hl 1 rfl) ?_
  obtain ⟨_, hq101, h⟩ := bnd_some h
  refine r_callVV X.1 hl hH (r := ()) (As := [.int x1]) (rest := []) (c_X10_checkModule l X.1.2.2.2.2.2.2.1 σ x1 () hq101) (cw_V X.1 1 mw_263 mw_260 mw_261 mw_262 mw_2 rfl rfl (by decide +kernel) ⟨Nat.le_of_ble_eq_true rfl, Nat.le_of_ble_eq_true rfl⟩) (r_recv X.1 hH (by decide) rfl rfl) rfl rfl (Nat.le_of_ble_eq_true rfl) dX10_run_2 ⟨Nat.zero_le _, Nat.zero_le _⟩ (fun H locs hH => ?_)
  refine lv_iload_n hx hb dX10_run_5 rfl (lv_at hl 2 rfl) ?_
  refine lv_iconst (v := 0) hx hb dX10_run_6 (by decide) ?_
  refine lv_bipush (v := 15) hx hb dX10_run_7 (by decide) ?_
  obtain ⟨_, hq104, h⟩ := bnd_some h
  refine r_callSV X.1 hl hH (r := ()) (As := [.int x2, .int 0, .int 15]) (rest := []) (c_X10_checkWithin l X.1.2.2.2.2.2.2.1 σ x2 0 15 () hq104) (cw_S X.1 3 mw_268 mw_266 mw_267 mw_2 rfl rfl (by decide +kernel) ⟨Nat.le_of_ble_eq_true rfl, Nat.le_of_ble_eq_true rfl⟩) rfl rfl (Nat.le_of_ble_eq_true rfl) dX10_run_9 ⟨Nat.zero_le _, Nat.zero_le _⟩ (fun H locs hH => ?_)
  refine lv_aload_n hx hb dX10_run_12 rfl (lv_at hl 0 rfl) ?_
  refine lv_iload_n hx hb dX10_run_13 rfl (lv_at hl 1 rfl) ?_
  refine lv_bipush (v := 16) hx hb dX10_run_14 (by decide) ?_
  refine lv_imul hx hb dX10_run_16 ?_
  refine lv_iload_n hx hb dX10_run_17 rfl (lv_at hl 2 rfl) ?_
  refine lv_iadd hx hb dX10_run_18 ?_
  obtain ⟨σ109, r108, hq107, h⟩ := bnd2_some h
  refine r_callVI X.1 hl hH (As := [.int ((x1 * (16 : Int32)) + x2)]) (rest := []) (c_X10_valueOf l X.1.2.2.2.2.2.2.1 σ ((x1 * (16 : Int32)) + x2) _ _ hq107) (cw_V X.1 1 mw_617 mw_614 mw_615 mw_616 mw_2 rfl rfl (by decide +kernel) ⟨Nat.le_of_ble_eq_true rfl, Nat.le_of_ble_eq_true rfl⟩) (r_recv X.1 hH (by decide) rfl rfl) rfl rfl (Nat.le_of_ble_eq_true rfl) dX10_run_19 ⟨Nat.zero_le _, Nat.zero_le _⟩ (fun H locs hH => ?_)
  cases h
  exact e_int X hH rfl dX10_run_22
def m_X8_allDeclarations_4 (σ : Sg) (i0 : Nat)  : Nat → Int32 → Int32 → Option Int32
  | 0, _, _ => none
  | n + 1, x1, x2 => if (σ.1 29 i0 0) ≤ x2 then some x1 else bnd (m_X8_declarationsOf σ i0 x2) (fun r102 => m_X8_allDeclarations_4 σ i0 n (x1 + r102) (x2 + 1))
set_option maxHeartbeats 4000000 in
set_option maxRecDepth 100000 in
theorem b_X8_allDeclarations_4 {p : Program} {l : Launch} {e : Env} {s : State} {m : MethodId} {args : Array Value} {below : List Frame} {meth : Method} {c : Code} {Γ : GG} (X : MB Γ p s m args meth c cX8_allDeclarations 3 RX8 (some .int)) (σ : Sg) {rf : Int32} (i0 : Nat) (hi0 : i0 < 32) : ∀ (n : Nat), (∀ (x1 : Int32) (x2 : Int32), (m_X8_allDeclarations_4 σ i0 n) x1 x2 = some rf → ∀ (H : Heap) (locs : List Loc) (ls : Array Slot), HW (IA Γ) Γ σ s.heap H locs → lv_has ls 3 [(0, .ref (adr Γ (kT i0))), (1, .int x1), (2, .int x2)] → W p l e ({ frames := 2, cells := 0, slots := 0, locals := 44 } : Room) s m args below meth c H locs 0 0 (QI Γ σ rf below args s) (F0 m 4 ls [])) := by
  have hx := X.1.1
  have hb := X.1.2.1
  intro n
  induction n with
  | zero => intro x1 x2 h; rw [m_X8_allDeclarations_4] at h; cases h
  | succ n ih =>
    intro x1 x2 h H locs ls hH hl
    rw [m_X8_allDeclarations_4] at h
    refine lv_iload_n hx hb dX8_allDeclarations_4 rfl (lv_at hl 2 rfl) ?_
    refine lv_aload_n hx hb dX8_allDeclarations_5 rfl (lv_at hl 0 rfl) ?_
    refine r_get X.1 hH (kT_lt (by omega)) (dT0 _ (by omega)) rfl inlX8 3 (by decide) (v := .int (σ.1 29 i0 0)) rfl mw_379 dX8_allDeclarations_6 ?_
    refine lv_icmp_ge (tgt := 26) hx hb dX8_allDeclarations_9 (by decide) (fun hc => ?_) (fun hc => ?_)
    · replace h := if_t h hc
      refine lv_iload_n hx hb dX8_allDeclarations_26 rfl (lv_at hl 1 rfl) ?_
      cases h
      exact e_int X hH rfl dX8_allDeclarations_27
    · replace h := if_f h hc
      refine lv_iload_n hx hb dX8_allDeclarations_12 rfl (lv_at hl 1 rfl) ?_
      refine lv_aload_n hx hb dX8_allDeclarations_13 rfl (lv_at hl 0 rfl) ?_
      refine lv_iload_n hx hb dX8_allDeclarations_14 rfl (lv_at hl 2 rfl) ?_
      obtain ⟨r102, hq101, h⟩ := bnd_some h
      refine r_callVI X.1 hl hH (As := [.int x2]) (rest := [.int x1]) (c_X8_declarationsOf l X.1.2.2.2.2.2.2.1 σ i0 (by omega) x2 _ hq101) (cw_V X.1 1 mw_274 mw_548 mw_272 mw_273 mw_12 rfl rfl (by decide +kernel) ⟨Nat.le_of_ble_eq_true rfl, Nat.le_of_ble_eq_true rfl⟩) (r_recv X.1 hH (kT_lt (by omega)) (dT0 _ (by omega)) rfl) rfl rfl (Nat.le_of_ble_eq_true rfl) dX8_allDeclarations_15 ⟨Nat.zero_le _, Nat.zero_le _⟩ (fun H locs hH => ?_)
      refine lv_iadd hx hb dX8_allDeclarations_18 ?_
      refine lv_istore_n (lv' := [(1, .int (x1 + r102)), (0, .ref (adr Γ (kT i0))), (2, .int x2)]) hx hb dX8_allDeclarations_19 rfl hl (by decide) rfl (fun ls hl => ?_)
      refine lv_iinc (v := x2 + 1) (lv' := [(2, .int (x2 + 1)), (1, .int (x1 + r102)), (0, .ref (adr Γ (kT i0)))]) hx hb dX8_allDeclarations_20 hl (k := 2) rfl rfl (by decide) rfl (fun ls hl => ?_)
      refine lv_goto (tgt := 4) hx hb dX8_allDeclarations_23 (by decide) ?_
      exact ih  (x1 + r102) (x2 + 1) h _ _ _ hH (lv_sub hl [2, 1, 0] rfl)
/-- CutoffMill$Texts.allDeclarations()I -/
def m_X8_allDeclarations (σ : Sg) (i0 : Nat) : Option Int32 := m_X8_allDeclarations_4 σ i0 1000 0 0
set_option maxHeartbeats 4000000 in
set_option maxRecDepth 100000 in
theorem c_X8_allDeclarations (l : Launch) {Γ : GG} (hJ : IJ Γ) (σ : Sg) (i0 : Nat) (hi0 : i0 < 32) (rf : Int32) (h : m_X8_allDeclarations σ i0 = some rf) : CI l yX8_allDeclarations (wy yX8_allDeclarations cX8_allDeclarations 3 (some .int)) { frames := 2, cells := 0, slots := 0, locals := 44 } Γ σ [.ref (adr Γ (kT i0))] σ rf := by
  refine met_of (by decide +kernel) hJ (Nat.le_of_ble_eq_true rfl) (fun p e s m below meth c ls X hH hl => ?_)
  have hl : lv_has ls 3 [(0, .ref (adr Γ (kT i0)))] := hl
  have hx := X.1.1
  have hb := X.1.2.1
  rw [m_X8_allDeclarations] at h
  refine lv_iconst (v := 0) hx hb dX8_allDeclarations_0 (by decide) ?_
  refine lv_istore_n (lv' := [(1, .int 0), (0, .ref (adr Γ (kT i0)))]) hx hb dX8_allDeclarations_1 rfl hl (by decide) rfl (fun ls hl => ?_)
  refine lv_iconst (v := 0) hx hb dX8_allDeclarations_2 (by decide) ?_
  refine lv_istore_n (lv' := [(2, .int 0), (1, .int 0), (0, .ref (adr Γ (kT i0)))]) hx hb dX8_allDeclarations_3 rfl hl (by decide) rfl (fun ls hl => ?_)
  exact b_X8_allDeclarations_4 X σ i0 hi0  1000  0 0 h _ _ _ hH (lv_sub hl [2, 1, 0] rfl)
def m_X8_allImports_4 (σ : Sg) (i0 : Nat)  : Nat → Int32 → Int32 → Option Int32
  | 0, _, _ => none
  | n + 1, x1, x2 => if (σ.1 29 i0 0) ≤ x2 then some x1 else chk (inb x2 8) (m_X8_allImports_4 σ i0 n (x1 + (σ.1 28 i0 x2.toNatClampNeg)) (x2 + 1))
set_option maxHeartbeats 4000000 in
set_option maxRecDepth 100000 in
theorem b_X8_allImports_4 {p : Program} {l : Launch} {e : Env} {s : State} {m : MethodId} {args : Array Value} {below : List Frame} {meth : Method} {c : Code} {Γ : GG} (X : MB Γ p s m args meth c cX8_allImports 3 RX8 (some .int)) (σ : Sg) {rf : Int32} (i0 : Nat) (hi0 : i0 < 32) : ∀ (n : Nat), (∀ (x1 : Int32) (x2 : Int32), (m_X8_allImports_4 σ i0 n) x1 x2 = some rf → ∀ (H : Heap) (locs : List Loc) (ls : Array Slot), HW (IA Γ) Γ σ s.heap H locs → lv_has ls 3 [(0, .ref (adr Γ (kT i0))), (1, .int x1), (2, .int x2)] → W p l e ({ frames := 0, cells := 0, slots := 0, locals := 0 } : Room) s m args below meth c H locs 0 0 (QI Γ σ rf below args s) (F0 m 4 ls [])) := by
  have hx := X.1.1
  have hb := X.1.2.1
  intro n
  induction n with
  | zero => intro x1 x2 h; rw [m_X8_allImports_4] at h; cases h
  | succ n ih =>
    intro x1 x2 h H locs ls hH hl
    rw [m_X8_allImports_4] at h
    refine lv_iload_n hx hb dX8_allImports_4 rfl (lv_at hl 2 rfl) ?_
    refine lv_aload_n hx hb dX8_allImports_5 rfl (lv_at hl 0 rfl) ?_
    refine r_get X.1 hH (kT_lt (by omega)) (dT0 _ (by omega)) rfl inlX8 3 (by decide) (v := .int (σ.1 29 i0 0)) rfl mw_379 dX8_allImports_6 ?_
    refine lv_icmp_ge (tgt := 27) hx hb dX8_allImports_9 (by decide) (fun hc => ?_) (fun hc => ?_)
    · replace h := if_t h hc
      refine lv_iload_n hx hb dX8_allImports_27 rfl (lv_at hl 1 rfl) ?_
      cases h
      exact e_int X hH rfl dX8_allImports_28
    · replace h := if_f h hc
      refine lv_iload_n hx hb dX8_allImports_12 rfl (lv_at hl 1 rfl) ?_
      refine lv_aload_n hx hb dX8_allImports_13 rfl (lv_at hl 0 rfl) ?_
      refine r_get X.1 hH (kT_lt (by omega)) (dT0 _ (by omega)) rfl inlX8 2 (by decide) (v := .ref (adr Γ (kT i0 + 3))) rfl mw_35 dX8_allImports_14 ?_
      refine lv_iload_n hx hb dX8_allImports_17 rfl (lv_at hl 2 rfl) ?_
      obtain ⟨hg101, h⟩ := chk_some h
      refine r_ild X.1 hH (lT3 _ (by omega)) (dT3 _ (by omega)) hg101 dX8_allImports_18 ?_
      refine lv_iadd hx hb dX8_allImports_19 ?_
      refine lv_istore_n (lv' := [(1, .int (x1 + (σ.1 28 i0 x2.toNatClampNeg))), (0, .ref (adr Γ (kT i0))), (2, .int x2)]) hx hb dX8_allImports_20 rfl hl (by decide) rfl (fun ls hl => ?_)
      refine lv_iinc (v := x2 + 1) (lv' := [(2, .int (x2 + 1)), (1, .int (x1 + (σ.1 28 i0 x2.toNatClampNeg))), (0, .ref (adr Γ (kT i0)))]) hx hb dX8_allImports_21 hl (k := 2) rfl rfl (by decide) rfl (fun ls hl => ?_)
      refine lv_goto (tgt := 4) hx hb dX8_allImports_24 (by decide) ?_
      exact ih  (x1 + (σ.1 28 i0 x2.toNatClampNeg)) (x2 + 1) h _ _ _ hH (lv_sub hl [2, 1, 0] rfl)
/-- CutoffMill$Texts.allImports()I -/
def m_X8_allImports (σ : Sg) (i0 : Nat) : Option Int32 := m_X8_allImports_4 σ i0 1000 0 0
set_option maxHeartbeats 4000000 in
set_option maxRecDepth 100000 in
theorem c_X8_allImports (l : Launch) {Γ : GG} (hJ : IJ Γ) (σ : Sg) (i0 : Nat) (hi0 : i0 < 32) (rf : Int32) (h : m_X8_allImports σ i0 = some rf) : CI l yX8_allImports (wy yX8_allImports cX8_allImports 3 (some .int)) { frames := 0, cells := 0, slots := 0, locals := 0 } Γ σ [.ref (adr Γ (kT i0))] σ rf := by
  refine met_of (by decide +kernel) hJ (Nat.le_of_ble_eq_true rfl) (fun p e s m below meth c ls X hH hl => ?_)
  have hl : lv_has ls 3 [(0, .ref (adr Γ (kT i0)))] := hl
  have hx := X.1.1
  have hb := X.1.2.1
  rw [m_X8_allImports] at h
  refine lv_iconst (v := 0) hx hb dX8_allImports_0 (by decide) ?_
  refine lv_istore_n (lv' := [(1, .int 0), (0, .ref (adr Γ (kT i0)))]) hx hb dX8_allImports_1 rfl hl (by decide) rfl (fun ls hl => ?_)
  refine lv_iconst (v := 0) hx hb dX8_allImports_2 (by decide) ?_
  refine lv_istore_n (lv' := [(2, .int 0), (1, .int 0), (0, .ref (adr Γ (kT i0)))]) hx hb dX8_allImports_3 rfl hl (by decide) rfl (fun ls hl => ?_)
  exact b_X8_allImports_4 X σ i0 hi0  1000  0 0 h _ _ _ hH (lv_sub hl [2, 1, 0] rfl)
def m_X9_staleCount_4 (σ : Sg) (i0 : Nat)  : Nat → Int32 → Int32 → Option Int32
  | 0, _, _ => none
  | n + 1, x1, x2 => if (σ.1 18 0 0) ≤ x2 then some x1 else chk (inb x2 8) (bnd (m_X9_reasonOf σ i0 (σ.1 17 0 x2.toNatClampNeg)) (fun r103 => if r103 = 0 then m_X9_staleCount_4 σ i0 n x1 (x2 + 1) else m_X9_staleCount_4 σ i0 n (x1 + 1) (x2 + 1)))
set_option maxHeartbeats 4000000 in
set_option maxRecDepth 100000 in
theorem b_X9_staleCount_4 {p : Program} {l : Launch} {e : Env} {s : State} {m : MethodId} {args : Array Value} {below : List Frame} {meth : Method} {c : Code} {Γ : GG} (X : MB Γ p s m args meth c cX9_staleCount 3 RX9 (some .int)) (σ : Sg) {rf : Int32} (i0 : Nat) (hi0 : i0 < 2) : ∀ (n : Nat), (∀ (x1 : Int32) (x2 : Int32), (m_X9_staleCount_4 σ i0 n) x1 x2 = some rf → ∀ (H : Heap) (locs : List Loc) (ls : Array Slot), HW (IA Γ) Γ σ s.heap H locs → lv_has ls 3 [(0, .ref (adr Γ (kW i0))), (1, .int x1), (2, .int x2)] → W p l e ({ frames := 4, cells := 0, slots := 0, locals := 89 } : Room) s m args below meth c H locs 0 0 (QI Γ σ rf below args s) (F0 m 4 ls [])) := by
  have hx := X.1.1
  have hb := X.1.2.1
  intro n
  induction n with
  | zero => intro x1 x2 h; rw [m_X9_staleCount_4] at h; cases h
  | succ n ih =>
    intro x1 x2 h H locs ls hH hl
    rw [m_X9_staleCount_4] at h
    refine lv_iload_n hx hb dX9_staleCount_4 rfl (lv_at hl 2 rfl) ?_
    refine lv_aload_n hx hb dX9_staleCount_5 rfl (lv_at hl 0 rfl) ?_
    refine r_get X.1 hH (kW_lt hi0) (dW0 _ hi0) rfl inlX9 2 (by decide) (v := .ref (adr Γ 12)) rfl mw_66 dX9_staleCount_6 ?_
    refine r_get X.1 hH (by decide) rfl rfl inlX6 6 (by decide) (v := .int (σ.1 18 0 0)) rfl mw_384 dX9_staleCount_9 ?_
    refine lv_icmp_ge (tgt := 40) hx hb dX9_staleCount_12 (by decide) (fun hc => ?_) (fun hc => ?_)
    · replace h := if_t h hc
      refine lv_iload_n hx hb dX9_staleCount_40 rfl (lv_at hl 1 rfl) ?_
      cases h
      exact e_int X hH rfl dX9_staleCount_41
    · replace h := if_f h hc
      refine lv_aload_n hx hb dX9_staleCount_15 rfl (lv_at hl 0 rfl) ?_
      refine lv_aload_n hx hb dX9_staleCount_16 rfl (lv_at hl 0 rfl) ?_
      refine r_get X.1 hH (kW_lt hi0) (dW0 _ hi0) rfl inlX9 2 (by decide) (v := .ref (adr Γ 12)) rfl mw_66 dX9_staleCount_17 ?_
      refine r_get X.1 hH (by decide) rfl rfl inlX6 5 (by decide) (v := .ref (adr Γ 17)) rfl mw_385 dX9_staleCount_20 ?_
      refine lv_iload_n hx hb dX9_staleCount_23 rfl (lv_at hl 2 rfl) ?_
      obtain ⟨hg101, h⟩ := chk_some h
      refine r_ild X.1 hH (by decide) rfl hg101 dX9_staleCount_24 ?_
      obtain ⟨r103, hq102, h⟩ := bnd_some h
      refine r_callVI X.1 hl hH (As := [.int (σ.1 17 0 x2.toNatClampNeg)]) (rest := []) (c_X9_reasonOf l X.1.2.2.2.2.2.2.1 σ i0 hi0 (σ.1 17 0 x2.toNatClampNeg) _ hq102) (cw_V X.1 1 mw_293 mw_386 mw_291 mw_292 mw_24 rfl rfl (by decide +kernel) ⟨Nat.le_of_ble_eq_true rfl, Nat.le_of_ble_eq_true rfl⟩) (r_recv X.1 hH (kW_lt hi0) (dW0 _ hi0) rfl) rfl rfl (Nat.le_of_ble_eq_true rfl) dX9_staleCount_25 ⟨Nat.zero_le _, Nat.zero_le _⟩ (fun H locs hH => ?_)
      refine lv_if_eq (tgt := 34) hx hb dX9_staleCount_28 (by decide) (fun hc => ?_) (fun hc => ?_)
      · replace h := if_t h hc
        refine lv_iinc (v := x2 + 1) (lv' := [(2, .int (x2 + 1)), (0, .ref (adr Γ (kW i0))), (1, .int x1)]) hx hb dX9_staleCount_34 hl (k := 2) rfl rfl (by decide) rfl (fun ls hl => ?_)
        refine lv_goto (tgt := 4) hx hb dX9_staleCount_37 (by decide) ?_
        exact ih  x1 (x2 + 1) h _ _ _ hH (lv_sub hl [1, 2, 0] rfl)
      · replace h := if_f h hc
        refine lv_iinc (v := x1 + 1) (lv' := [(1, .int (x1 + 1)), (0, .ref (adr Γ (kW i0))), (2, .int x2)]) hx hb dX9_staleCount_31 hl (k := 1) rfl rfl (by decide) rfl (fun ls hl => ?_)
        refine lv_iinc (v := x2 + 1) (lv' := [(2, .int (x2 + 1)), (1, .int (x1 + 1)), (0, .ref (adr Γ (kW i0)))]) hx hb dX9_staleCount_34 hl (k := 2) rfl rfl (by decide) rfl (fun ls hl => ?_)
        refine lv_goto (tgt := 4) hx hb dX9_staleCount_37 (by decide) ?_
        exact ih  (x1 + 1) (x2 + 1) h _ _ _ hH (lv_sub hl [2, 1, 0] rfl)
/-- CutoffMill$Works.staleCount()I -/
def m_X9_staleCount (σ : Sg) (i0 : Nat) : Option Int32 := m_X9_staleCount_4 σ i0 1000 0 0
set_option maxHeartbeats 4000000 in
set_option maxRecDepth 100000 in
theorem c_X9_staleCount (l : Launch) {Γ : GG} (hJ : IJ Γ) (σ : Sg) (i0 : Nat) (hi0 : i0 < 2) (rf : Int32) (h : m_X9_staleCount σ i0 = some rf) : CI l yX9_staleCount (wy yX9_staleCount cX9_staleCount 3 (some .int)) { frames := 4, cells := 0, slots := 0, locals := 89 } Γ σ [.ref (adr Γ (kW i0))] σ rf := by
  refine met_of (by decide +kernel) hJ (Nat.le_of_ble_eq_true rfl) (fun p e s m below meth c ls X hH hl => ?_)
  have hl : lv_has ls 3 [(0, .ref (adr Γ (kW i0)))] := hl
  have hx := X.1.1
  have hb := X.1.2.1
  rw [m_X9_staleCount] at h
  refine lv_iconst (v := 0) hx hb dX9_staleCount_0 (by decide) ?_
  refine lv_istore_n (lv' := [(1, .int 0), (0, .ref (adr Γ (kW i0)))]) hx hb dX9_staleCount_1 rfl hl (by decide) rfl (fun ls hl => ?_)
  refine lv_iconst (v := 0) hx hb dX9_staleCount_2 (by decide) ?_
  refine lv_istore_n (lv' := [(2, .int 0), (1, .int 0), (0, .ref (adr Γ (kW i0)))]) hx hb dX9_staleCount_3 rfl hl (by decide) rfl (fun ls hl => ?_)
  exact b_X9_staleCount_4 X σ i0 hi0  1000  0 0 h _ _ _ hH (lv_sub hl [2, 1, 0] rfl)
def m_X9_faultCount_4 (σ : Sg) (i0 : Nat)  : Nat → Int32 → Int32 → Option Int32
  | 0, _, _ => none
  | n + 1, x1, x2 => if 128 ≤ x2 then some x1 else bnd (m_X9_isFaulty σ i0 x2) (fun r102 => if r102 = 0 then m_X9_faultCount_4 σ i0 n x1 (x2 + 1) else m_X9_faultCount_4 σ i0 n (x1 + 1) (x2 + 1))
set_option maxHeartbeats 4000000 in
set_option maxRecDepth 100000 in
theorem b_X9_faultCount_4 {p : Program} {l : Launch} {e : Env} {s : State} {m : MethodId} {args : Array Value} {below : List Frame} {meth : Method} {c : Code} {Γ : GG} (X : MB Γ p s m args meth c cX9_faultCount 3 RX9 (some .int)) (σ : Sg) {rf : Int32} (i0 : Nat) (hi0 : i0 < 2) : ∀ (n : Nat), (∀ (x1 : Int32) (x2 : Int32), (m_X9_faultCount_4 σ i0 n) x1 x2 = some rf → ∀ (H : Heap) (locs : List Loc) (ls : Array Slot), HW (IA Γ) Γ σ s.heap H locs → lv_has ls 3 [(0, .ref (adr Γ (kW i0))), (1, .int x1), (2, .int x2)] → W p l e ({ frames := 2, cells := 0, slots := 0, locals := 43 } : Room) s m args below meth c H locs 0 0 (QI Γ σ rf below args s) (F0 m 4 ls [])) := by
  have hx := X.1.1
  have hb := X.1.2.1
  intro n
  induction n with
  | zero => intro x1 x2 h; rw [m_X9_faultCount_4] at h; cases h
  | succ n ih =>
    intro x1 x2 h H locs ls hH hl
    rw [m_X9_faultCount_4] at h
    refine lv_iload_n hx hb dX9_faultCount_4 rfl (lv_at hl 2 rfl) ?_
    refine lv_sipush (v := 128) hx hb dX9_faultCount_5 (by decide) ?_
    refine lv_icmp_ge (tgt := 28) hx hb dX9_faultCount_8 (by decide) (fun hc => ?_) (fun hc => ?_)
    · replace h := if_t h hc
      refine lv_iload_n hx hb dX9_faultCount_28 rfl (lv_at hl 1 rfl) ?_
      cases h
      exact e_int X hH rfl dX9_faultCount_29
    · replace h := if_f h hc
      refine lv_aload_n hx hb dX9_faultCount_11 rfl (lv_at hl 0 rfl) ?_
      refine lv_iload_n hx hb dX9_faultCount_12 rfl (lv_at hl 2 rfl) ?_
      obtain ⟨r102, hq101, h⟩ := bnd_some h
      refine r_callVI X.1 hl hH (As := [.int x2]) (rest := []) (c_X9_isFaulty l X.1.2.2.2.2.2.2.1 σ i0 hi0 x2 _ hq101) (cw_V X.1 1 mw_564 mw_561 mw_562 mw_563 mw_24 rfl rfl (by decide +kernel) ⟨Nat.le_of_ble_eq_true rfl, Nat.le_of_ble_eq_true rfl⟩) (r_recv X.1 hH (kW_lt hi0) (dW0 _ hi0) rfl) rfl rfl (Nat.le_of_ble_eq_true rfl) dX9_faultCount_13 ⟨Nat.zero_le _, Nat.zero_le _⟩ (fun H locs hH => ?_)
      refine lv_if_eq (tgt := 22) hx hb dX9_faultCount_16 (by decide) (fun hc => ?_) (fun hc => ?_)
      · replace h := if_t h hc
        refine lv_iinc (v := x2 + 1) (lv' := [(2, .int (x2 + 1)), (0, .ref (adr Γ (kW i0))), (1, .int x1)]) hx hb dX9_faultCount_22 hl (k := 2) rfl rfl (by decide) rfl (fun ls hl => ?_)
        refine lv_goto (tgt := 4) hx hb dX9_faultCount_25 (by decide) ?_
        exact ih  x1 (x2 + 1) h _ _ _ hH (lv_sub hl [1, 2, 0] rfl)
      · replace h := if_f h hc
        refine lv_iinc (v := x1 + 1) (lv' := [(1, .int (x1 + 1)), (0, .ref (adr Γ (kW i0))), (2, .int x2)]) hx hb dX9_faultCount_19 hl (k := 1) rfl rfl (by decide) rfl (fun ls hl => ?_)
        refine lv_iinc (v := x2 + 1) (lv' := [(2, .int (x2 + 1)), (1, .int (x1 + 1)), (0, .ref (adr Γ (kW i0)))]) hx hb dX9_faultCount_22 hl (k := 2) rfl rfl (by decide) rfl (fun ls hl => ?_)
        refine lv_goto (tgt := 4) hx hb dX9_faultCount_25 (by decide) ?_
        exact ih  (x1 + 1) (x2 + 1) h _ _ _ hH (lv_sub hl [2, 1, 0] rfl)
/-- CutoffMill$Works.faultCount()I -/
def m_X9_faultCount (σ : Sg) (i0 : Nat) : Option Int32 := m_X9_faultCount_4 σ i0 1000 0 0
set_option maxHeartbeats 4000000 in
set_option maxRecDepth 100000 in
theorem c_X9_faultCount (l : Launch) {Γ : GG} (hJ : IJ Γ) (σ : Sg) (i0 : Nat) (hi0 : i0 < 2) (rf : Int32) (h : m_X9_faultCount σ i0 = some rf) : CI l yX9_faultCount (wy yX9_faultCount cX9_faultCount 3 (some .int)) { frames := 2, cells := 0, slots := 0, locals := 43 } Γ σ [.ref (adr Γ (kW i0))] σ rf := by
  refine met_of (by decide +kernel) hJ (Nat.le_of_ble_eq_true rfl) (fun p e s m below meth c ls X hH hl => ?_)
  have hl : lv_has ls 3 [(0, .ref (adr Γ (kW i0)))] := hl
  have hx := X.1.1
  have hb := X.1.2.1
  rw [m_X9_faultCount] at h
  refine lv_iconst (v := 0) hx hb dX9_faultCount_0 (by decide) ?_
  refine lv_istore_n (lv' := [(1, .int 0), (0, .ref (adr Γ (kW i0)))]) hx hb dX9_faultCount_1 rfl hl (by decide) rfl (fun ls hl => ?_)
  refine lv_iconst (v := 0) hx hb dX9_faultCount_2 (by decide) ?_
  refine lv_istore_n (lv' := [(2, .int 0), (1, .int 0), (0, .ref (adr Γ (kW i0)))]) hx hb dX9_faultCount_3 rfl hl (by decide) rfl (fun ls hl => ?_)
  exact b_X9_faultCount_4 X σ i0 hi0  1000  0 0 h _ _ _ hH (lv_sub hl [2, 1, 0] rfl)
/-- CutoffMill.many(I)I -/
def m_X10_many (σ : Sg) (x1 : Int32) : Option Int32 := bnd (m_X10_checkWithin σ x1 0 9) (fun _ => if x1.toInt = 0 then some (σ.1 29 0 0) else if x1.toInt = 1 then bnd (m_X8_allDeclarations σ 0) (fun r105 => some r105) else if x1.toInt = 2 then bnd (m_X8_allImports σ 0) (fun r108 => some r108) else if x1.toInt = 3 then some (σ.1 18 0 0) else if x1.toInt = 4 then bnd (m_X9_staleCount σ 0) (fun r111 => some r111) else if x1.toInt = 5 then bnd (m_X9_faultCount σ 0) (fun r114 => some r114) else if x1.toInt = 6 then some (σ.1 19 0 0) else if x1.toInt = 7 then some (σ.1 3 0 0) else if x1.toInt = 8 then some (σ.1 4 0 0) else some (σ.1 5 0 0))
set_option maxHeartbeats 4000000 in
set_option maxRecDepth 100000 in
theorem c_X10_many (l : Launch) {Γ : GG} (hJ : IJ Γ) (σ : Sg) (x1 : Int32) (rf : Int32) (h : m_X10_many σ x1 = some rf) : CI l yX10_many (wy yX10_many cX10_many 2 (some .int)) { frames := 5, cells := 0, slots := 0, locals := 111 } Γ σ [.ref (adr Γ 0), .int x1] σ rf := by
  refine met_of (by decide +kernel) hJ (Nat.le_of_ble_eq_true rfl) (fun p e s m below meth c ls X hH hl => ?_)
  have hl : lv_has ls 2 [(0, .ref (adr Γ 0)), (1, .int x1)] := hl
  have hx := X.1.1
  have hb := X.1.2.1
  rw [m_X10_many] at h
  refine lv_iload_n hx hb dX10_many_0 rfl (lv_at hl 1 rfl) ?_
  refine lv_iconst (v := 0) hx hb dX10_many_1 (by decide) ?_
  refine lv_bipush (v := 9) hx hb dX10_many_2 (by decide) ?_
  obtain ⟨_, hq101, h⟩ := bnd_some h
  refine r_callSV X.1 hl hH (r := ()) (As := [.int x1, .int 0, .int 9]) (rest := []) (c_X10_checkWithin l X.1.2.2.2.2.2.2.1 σ x1 0 9 () hq101) (cw_S X.1 3 mw_268 mw_266 mw_267 mw_2 rfl rfl (by decide +kernel) ⟨Nat.le_of_ble_eq_true rfl, Nat.le_of_ble_eq_true rfl⟩) rfl rfl (Nat.le_of_ble_eq_true rfl) dX10_many_4 ⟨Nat.zero_le _, Nat.zero_le _⟩ (fun H locs hH => ?_)
  refine lv_iload_n hx hb dX10_many_7 rfl (lv_at hl 1 rfl) ?_
  by_cases hc : x1.toInt = 0
  · replace h := if_t h hc
    refine lv_tableIn (tgt := 60) hx hb dX10_many_8 (by rw [hc]; decide) (by rw [hc]; decide) (by rw [hc]; rfl) (by decide) ?_
    refine lv_aload_n hx hb dX10_many_60 rfl (lv_at hl 0 rfl) ?_
    refine r_get X.1 hH (by decide) rfl rfl inlX10 0 (by decide) (v := .ref (adr Γ (kT 0))) rfl mw_13 dX10_many_61 ?_
    refine r_get X.1 hH (kT_lt (by omega)) (dT0 _ (by omega)) rfl inlX8 3 (by decide) (v := .int (σ.1 29 0 0)) rfl mw_137 dX10_many_64 ?_
    cases h
    exact e_int X hH rfl dX10_many_67
  · replace h := if_f h hc
    have hn0 := hc
    by_cases hc : x1.toInt = 1
    · replace h := if_t h hc
      refine lv_tableIn (tgt := 68) hx hb dX10_many_8 (by rw [hc]; decide) (by rw [hc]; decide) (by rw [hc]; rfl) (by decide) ?_
      refine lv_aload_n hx hb dX10_many_68 rfl (lv_at hl 0 rfl) ?_
      refine r_get X.1 hH (by decide) rfl rfl inlX10 0 (by decide) (v := .ref (adr Γ (kT 0))) rfl mw_13 dX10_many_69 ?_
      obtain ⟨r105, hq104, h⟩ := bnd_some h
      refine r_callVI X.1 hl hH (As := []) (rest := []) (c_X8_allDeclarations l X.1.2.2.2.2.2.2.1 σ 0 (by omega) _ hq104) (cw_V X.1 0 mw_547 mw_544 mw_545 mw_546 mw_12 rfl rfl (by decide +kernel) ⟨Nat.le_of_ble_eq_true rfl, Nat.le_of_ble_eq_true rfl⟩) (r_recv X.1 hH (kT_lt (by omega)) (dT0 _ (by omega)) rfl) rfl rfl (Nat.le_of_ble_eq_true rfl) dX10_many_72 ⟨Nat.zero_le _, Nat.zero_le _⟩ (fun H locs hH => ?_)
      cases h
      exact e_int X hH rfl dX10_many_75
    · replace h := if_f h hc
      have hn1 := hc
      by_cases hc : x1.toInt = 2
      · replace h := if_t h hc
        refine lv_tableIn (tgt := 76) hx hb dX10_many_8 (by rw [hc]; decide) (by rw [hc]; decide) (by rw [hc]; rfl) (by decide) ?_
        refine lv_aload_n hx hb dX10_many_76 rfl (lv_at hl 0 rfl) ?_
        refine r_get X.1 hH (by decide) rfl rfl inlX10 0 (by decide) (v := .ref (adr Γ (kT 0))) rfl mw_13 dX10_many_77 ?_
        obtain ⟨r108, hq107, h⟩ := bnd_some h
        refine r_callVI X.1 hl hH (As := []) (rest := []) (c_X8_allImports l X.1.2.2.2.2.2.2.1 σ 0 (by omega) _ hq107) (cw_V X.1 0 mw_552 mw_549 mw_550 mw_551 mw_12 rfl rfl (by decide +kernel) ⟨Nat.le_of_ble_eq_true rfl, Nat.le_of_ble_eq_true rfl⟩) (r_recv X.1 hH (kT_lt (by omega)) (dT0 _ (by omega)) rfl) rfl rfl (Nat.le_of_ble_eq_true rfl) dX10_many_80 ⟨Nat.zero_le _, Nat.zero_le _⟩ (fun H locs hH => ?_)
        cases h
        exact e_int X hH rfl dX10_many_83
      · replace h := if_f h hc
        have hn2 := hc
        by_cases hc : x1.toInt = 3
        · replace h := if_t h hc
          refine lv_tableIn (tgt := 84) hx hb dX10_many_8 (by rw [hc]; decide) (by rw [hc]; decide) (by rw [hc]; rfl) (by decide) ?_
          refine lv_aload_n hx hb dX10_many_84 rfl (lv_at hl 0 rfl) ?_
          refine r_get X.1 hH (by decide) rfl rfl inlX10 2 (by decide) (v := .ref (adr Γ 12)) rfl mw_21 dX10_many_85 ?_
          refine r_get X.1 hH (by decide) rfl rfl inlX6 6 (by decide) (v := .int (σ.1 18 0 0)) rfl mw_538 dX10_many_88 ?_
          cases h
          exact e_int X hH rfl dX10_many_91
        · replace h := if_f h hc
          have hn3 := hc
          by_cases hc : x1.toInt = 4
          · replace h := if_t h hc
            refine lv_tableIn (tgt := 92) hx hb dX10_many_8 (by rw [hc]; decide) (by rw [hc]; decide) (by rw [hc]; rfl) (by decide) ?_
            refine lv_aload_n hx hb dX10_many_92 rfl (lv_at hl 0 rfl) ?_
            refine r_get X.1 hH (by decide) rfl rfl inlX10 3 (by decide) (v := .ref (adr Γ (kW 0))) rfl mw_25 dX10_many_93 ?_
            obtain ⟨r111, hq110, h⟩ := bnd_some h
            refine r_callVI X.1 hl hH (As := []) (rest := []) (c_X9_staleCount l X.1.2.2.2.2.2.2.1 σ 0 (by omega) _ hq110) (cw_V X.1 0 mw_556 mw_553 mw_554 mw_555 mw_24 rfl rfl (by decide +kernel) ⟨Nat.le_of_ble_eq_true rfl, Nat.le_of_ble_eq_true rfl⟩) (r_recv X.1 hH (kW_lt (by omega)) (dW0 _ (by omega)) rfl) rfl rfl (Nat.le_of_ble_eq_true rfl) dX10_many_96 ⟨Nat.zero_le _, Nat.zero_le _⟩ (fun H locs hH => ?_)
            cases h
            exact e_int X hH rfl dX10_many_99
          · replace h := if_f h hc
            have hn4 := hc
            by_cases hc : x1.toInt = 5
            · replace h := if_t h hc
              refine lv_tableIn (tgt := 100) hx hb dX10_many_8 (by rw [hc]; decide) (by rw [hc]; decide) (by rw [hc]; rfl) (by decide) ?_
              refine lv_aload_n hx hb dX10_many_100 rfl (lv_at hl 0 rfl) ?_
              refine r_get X.1 hH (by decide) rfl rfl inlX10 3 (by decide) (v := .ref (adr Γ (kW 0))) rfl mw_25 dX10_many_101 ?_
              obtain ⟨r114, hq113, h⟩ := bnd_some h
              refine r_callVI X.1 hl hH (As := []) (rest := []) (c_X9_faultCount l X.1.2.2.2.2.2.2.1 σ 0 (by omega) _ hq113) (cw_V X.1 0 mw_560 mw_557 mw_558 mw_559 mw_24 rfl rfl (by decide +kernel) ⟨Nat.le_of_ble_eq_true rfl, Nat.le_of_ble_eq_true rfl⟩) (r_recv X.1 hH (kW_lt (by omega)) (dW0 _ (by omega)) rfl) rfl rfl (Nat.le_of_ble_eq_true rfl) dX10_many_104 ⟨Nat.zero_le _, Nat.zero_le _⟩ (fun H locs hH => ?_)
              cases h
              exact e_int X hH rfl dX10_many_107
            · replace h := if_f h hc
              have hn5 := hc
              by_cases hc : x1.toInt = 6
              · replace h := if_t h hc
                refine lv_tableIn (tgt := 108) hx hb dX10_many_8 (by rw [hc]; decide) (by rw [hc]; decide) (by rw [hc]; rfl) (by decide) ?_
                refine lv_aload_n hx hb dX10_many_108 rfl (lv_at hl 0 rfl) ?_
                refine r_get X.1 hH (by decide) rfl rfl inlX10 3 (by decide) (v := .ref (adr Γ (kW 0))) rfl mw_25 dX10_many_109 ?_
                refine r_get X.1 hH (kW_lt (by omega)) (dW0 _ (by omega)) rfl inlX9 4 (by decide) (v := .ref (adr Γ (kW 0 + 1))) rfl mw_539 dX10_many_112 ?_
                refine r_get X.1 hH (lW _ (by omega) 1 (by decide)) (dW1 _ (by omega)) rfl inlX7 1 (by decide) (v := .int (σ.1 19 0 0)) rfl mw_540 dX10_many_115 ?_
                cases h
                exact e_int X hH rfl dX10_many_118
              · replace h := if_f h hc
                have hn6 := hc
                by_cases hc : x1.toInt = 7
                · replace h := if_t h hc
                  refine lv_tableIn (tgt := 119) hx hb dX10_many_8 (by rw [hc]; decide) (by rw [hc]; decide) (by rw [hc]; rfl) (by decide) ?_
                  refine lv_aload_n hx hb dX10_many_119 rfl (lv_at hl 0 rfl) ?_
                  refine r_get X.1 hH (by decide) rfl rfl inlX10 8 (by decide) (v := .int (σ.1 3 0 0)) rfl mw_541 dX10_many_120 ?_
                  cases h
                  exact e_int X hH rfl dX10_many_123
                · replace h := if_f h hc
                  have hn7 := hc
                  by_cases hc : x1.toInt = 8
                  · replace h := if_t h hc
                    refine lv_tableIn (tgt := 124) hx hb dX10_many_8 (by rw [hc]; decide) (by rw [hc]; decide) (by rw [hc]; rfl) (by decide) ?_
                    refine lv_aload_n hx hb dX10_many_124 rfl (lv_at hl 0 rfl) ?_
                    refine r_get X.1 hH (by decide) rfl rfl inlX10 9 (by decide) (v := .int (σ.1 4 0 0)) rfl mw_542 dX10_many_125 ?_
                    cases h
                    exact e_int X hH rfl dX10_many_128
                  · replace h := if_f h hc
                    have hn8 := hc
                    refine lv_tableOut (tgt := 129) hx hb dX10_many_8 (by omega) (by decide) ?_
                    refine lv_aload_n hx hb dX10_many_129 rfl (lv_at hl 0 rfl) ?_
                    refine r_get X.1 hH (by decide) rfl rfl inlX10 10 (by decide) (v := .int (σ.1 5 0 0)) rfl mw_543 dX10_many_130 ?_
                    cases h
                    exact e_int X hH rfl dX10_many_133
def m_X9_startFrom_13 (i0 : Nat) (i1 : Nat)  : Nat → Sg → Int32 → Option Sg
  | 0, _, _ => none
  | n + 1, σ, x2 => if 8 ≤ x2 then some σ else chk (inb x2 (lenP 0 i1)) (bnd (σ.2.2 0 i1 x2.toNatClampNeg) (fun r105 => chk (decide (r105 < 30)) (chk (inb x2 (lenP 0 i0)) (st (wP σ 0 i0 x2.toNatClampNeg r105) (fun σ108 => m_X9_startFrom_13 i0 i1 n σ108 (x2 + 1))))))
set_option maxHeartbeats 4000000 in
set_option maxRecDepth 100000 in
theorem b_X9_startFrom_13 {p : Program} {l : Launch} {e : Env} {s : State} {m : MethodId} {args : Array Value} {below : List Frame} {meth : Method} {c : Code} {Γ : GG} (X : MB Γ p s m args meth c cX9_startFrom 3 RX9 none) {σf : Sg} {rf : Unit} (i0 : Nat) (hi0 : i0 < 2) (i1 : Nat) (hi1 : i1 < 2) : ∀ (n : Nat), (∀ (σ : Sg) (x2 : Int32), (m_X9_startFrom_13 i0 i1 n) σ x2 = some σf → ∀ (H : Heap) (locs : List Loc) (ls : Array Slot), HW (IA Γ) Γ σ s.heap H locs → lv_has ls 3 [(0, .ref (adr Γ (kW i0))), (1, .ref (adr Γ (kW i1))), (2, .int x2)] → W p l e ({ frames := 2, cells := 0, slots := 0, locals := 81 } : Room) s m args below meth c H locs 0 0 (QV Γ σf rf below args s) (F0 m 13 ls [])) := by
  have hx := X.1.1
  have hb := X.1.2.1
  intro n
  induction n with
  | zero => intro σ x2 h; rw [m_X9_startFrom_13] at h; cases h
  | succ n ih =>
    intro σ x2 h H locs ls hH hl
    rw [m_X9_startFrom_13] at h
    refine lv_iload_n hx hb dX9_startFrom_13 rfl (lv_at hl 2 rfl) ?_
    refine lv_bipush (v := 8) hx hb dX9_startFrom_14 (by decide) ?_
    refine lv_icmp_ge (tgt := 37) hx hb dX9_startFrom_16 (by decide) (fun hc => ?_) (fun hc => ?_)
    · replace h := if_t h hc
      cases h
      exact e_void (v := rf) X hH dX9_startFrom_37
    · replace h := if_f h hc
      refine lv_aload_n hx hb dX9_startFrom_19 rfl (lv_at hl 0 rfl) ?_
      refine r_get X.1 hH (kW_lt hi0) (dW0 _ hi0) rfl inlX9 5 (by decide) (v := .ref (adr Γ (kW i0 + 3))) rfl mw_63 dX9_startFrom_20 ?_
      refine lv_iload_n hx hb dX9_startFrom_23 rfl (lv_at hl 2 rfl) ?_
      refine lv_aload_n hx hb dX9_startFrom_24 rfl (lv_at hl 1 rfl) ?_
      refine r_get X.1 hH (kW_lt hi1) (dW0 _ hi1) rfl inlX9 5 (by decide) (v := .ref (adr Γ (kW i1 + 3))) rfl mw_63 dX9_startFrom_25 ?_
      refine lv_iload_n hx hb dX9_startFrom_28 rfl (lv_at hl 2 rfl) ?_
      obtain ⟨hg104, h⟩ := chk_some h
      obtain ⟨r105, he106, h⟩ := bnd_some h
      obtain ⟨hr105, h⟩ := chk_some h
      replace hr105 := of_decide_eq_true hr105
      refine r_ald X.1 hH (lW _ hi1 3 (by decide)) (dW3 _ hi1) hg104 he106 dX9_startFrom_29 ?_
      obtain ⟨hg107, h⟩ := chk_some h
      obtain ⟨σ108, e109, h⟩ := st_some h
      refine r_ast X.1 hH (lW _ hi0 3 (by decide)) (dW3 _ hi0) hg107 hr105 dX9_startFrom_30 (fun H locs hH => ?_)
      replace hH : HW (IA Γ) Γ σ108 s.heap H locs := by rw [e109]; exact hH
      refine lv_iinc (v := x2 + 1) (lv' := [(2, .int (x2 + 1)), (0, .ref (adr Γ (kW i0))), (1, .ref (adr Γ (kW i1)))]) hx hb dX9_startFrom_31 hl (k := 2) rfl rfl (by decide) rfl (fun ls hl => ?_)
      refine lv_goto (tgt := 13) hx hb dX9_startFrom_34 (by decide) ?_
      exact ih σ108 (x2 + 1) h _ _ _ hH (lv_sub hl [1, 2, 0] rfl)
/-- CutoffMill$Works.startFrom(LCutoffMill$Works;)V -/
def m_X9_startFrom (σ : Sg) (i0 : Nat) (i1 : Nat) : Option Sg := bnd (m_X8_copy σ i0 i1) (fun σ103 => m_X9_startFrom_13 i0 i1 1000 σ103 0)
set_option maxHeartbeats 4000000 in
set_option maxRecDepth 100000 in
theorem c_X9_startFrom (l : Launch) {Γ : GG} (hJ : IJ Γ) (σ : Sg) (i0 : Nat) (hi0 : i0 < 2) (i1 : Nat) (hi1 : i1 < 2) (σf : Sg) (rf : Unit) (h : m_X9_startFrom σ i0 i1 = some σf) : CV l yX9_startFrom (wy yX9_startFrom cX9_startFrom 3 none) { frames := 2, cells := 0, slots := 0, locals := 81 } Γ σ [.ref (adr Γ (kW i0)), .ref (adr Γ (kW i1))] σf rf := by
  refine met_of (by decide +kernel) hJ (Nat.le_of_ble_eq_true rfl) (fun p e s m below meth c ls X hH hl => ?_)
  have hl : lv_has ls 3 [(0, .ref (adr Γ (kW i0))), (1, .ref (adr Γ (kW i1)))] := hl
  have hx := X.1.1
  have hb := X.1.2.1
  rw [m_X9_startFrom] at h
  refine lv_aload_n hx hb dX9_startFrom_0 rfl (lv_at hl 0 rfl) ?_
  refine r_get X.1 hH (kW_lt hi0) (dW0 _ hi0) rfl inlX9 0 (by decide) (v := .ref (adr Γ (kT i0))) rfl mw_64 dX9_startFrom_1 ?_
  refine lv_aload_n hx hb dX9_startFrom_4 rfl (lv_at hl 1 rfl) ?_
  refine r_get X.1 hH (kW_lt hi1) (dW0 _ hi1) rfl inlX9 0 (by decide) (v := .ref (adr Γ (kT i1))) rfl mw_64 dX9_startFrom_5 ?_
  obtain ⟨σ103, hq101, h⟩ := bnd_some h
  refine r_callVV X.1 hl hH (r := ()) (As := [.ref (adr Γ (kT i1))]) (rest := []) (c_X8_copy l X.1.2.2.2.2.2.2.1 σ i0 (by omega) i1 (by omega) _ () hq101) (cw_V X.1 1 mw_374 mw_371 mw_372 mw_373 mw_12 rfl rfl (by decide +kernel) ⟨Nat.le_of_ble_eq_true rfl, Nat.le_of_ble_eq_true rfl⟩) (r_recv X.1 hH (kT_lt (by omega)) (dT0 _ (by omega)) rfl) rfl rfl (Nat.le_of_ble_eq_true rfl) dX9_startFrom_8 ⟨Nat.zero_le _, Nat.zero_le _⟩ (fun H locs hH => ?_)
  refine lv_iconst (v := 0) hx hb dX9_startFrom_11 (by decide) ?_
  refine lv_istore_n (lv' := [(2, .int 0), (0, .ref (adr Γ (kW i0))), (1, .ref (adr Γ (kW i1)))]) hx hb dX9_startFrom_12 rfl hl (by decide) rfl (fun ls hl => ?_)
  exact b_X9_startFrom_13 (rf := ()) X i0 hi0 i1 hi1  1000 σ103 0 h _ _ _ hH (lv_sub hl [1, 2, 0] rfl)
def m_X9_renewAll_4 (i0 : Nat)  : Nat → Sg → Int32 → Int32 → Option (Sg × Int32)
  | 0, _, _, _ => none
  | n + 1, σ, x1, x2 => if (σ.1 18 0 0) ≤ x2 then some (σ, x1) else chk (inb x2 8) (bnd (m_X9_reasonOf σ i0 (σ.1 17 0 x2.toNatClampNeg)) (fun r103 => if r103 = 0 then m_X9_renewAll_4 i0 n σ x1 (x2 + 1) else chk (inb x2 8) (bnd2 (m_X9_renew σ i0 (σ.1 17 0 x2.toNatClampNeg)) (fun σ108 r107 => m_X9_renewAll_4 i0 n σ108 (x1 + 1) (x2 + 1)))))
set_option maxHeartbeats 4000000 in
set_option maxRecDepth 100000 in
theorem b_X9_renewAll_4 {p : Program} {l : Launch} {e : Env} {s : State} {m : MethodId} {args : Array Value} {below : List Frame} {meth : Method} {c : Code} {Γ : GG} (X : MB Γ p s m args meth c cX9_renewAll 3 RX9 (some .int)) {σf : Sg} {rf : Int32} (i0 : Nat) (hi0 : i0 < 2) : ∀ (n : Nat), (∀ (σ : Sg) (x1 : Int32) (x2 : Int32), (m_X9_renewAll_4 i0 n) σ x1 x2 = some (σf, rf) → ∀ (H : Heap) (locs : List Loc) (ls : Array Slot), HW (IA Γ) Γ σ s.heap H locs → lv_has ls 3 [(0, .ref (adr Γ (kW i0))), (1, .int x1), (2, .int x2)] → W p l e ({ frames := 5, cells := 0, slots := 0, locals := 129 } : Room) s m args below meth c H locs 0 0 (QI Γ σf rf below args s) (F0 m 4 ls [])) := by
  have hx := X.1.1
  have hb := X.1.2.1
  intro n
  induction n with
  | zero => intro σ x1 x2 h; rw [m_X9_renewAll_4] at h; cases h
  | succ n ih =>
    intro σ x1 x2 h H locs ls hH hl
    rw [m_X9_renewAll_4] at h
    refine lv_iload_n hx hb dX9_renewAll_4 rfl (lv_at hl 2 rfl) ?_
    refine lv_aload_n hx hb dX9_renewAll_5 rfl (lv_at hl 0 rfl) ?_
    refine r_get X.1 hH (kW_lt hi0) (dW0 _ hi0) rfl inlX9 2 (by decide) (v := .ref (adr Γ 12)) rfl mw_66 dX9_renewAll_6 ?_
    refine r_get X.1 hH (by decide) rfl rfl inlX6 6 (by decide) (v := .int (σ.1 18 0 0)) rfl mw_384 dX9_renewAll_9 ?_
    refine lv_icmp_ge (tgt := 54) hx hb dX9_renewAll_12 (by decide) (fun hc => ?_) (fun hc => ?_)
    · replace h := if_t h hc
      refine lv_iload_n hx hb dX9_renewAll_54 rfl (lv_at hl 1 rfl) ?_
      cases h
      exact e_int X hH rfl dX9_renewAll_55
    · replace h := if_f h hc
      refine lv_aload_n hx hb dX9_renewAll_15 rfl (lv_at hl 0 rfl) ?_
      refine lv_aload_n hx hb dX9_renewAll_16 rfl (lv_at hl 0 rfl) ?_
      refine r_get X.1 hH (kW_lt hi0) (dW0 _ hi0) rfl inlX9 2 (by decide) (v := .ref (adr Γ 12)) rfl mw_66 dX9_renewAll_17 ?_
      refine r_get X.1 hH (by decide) rfl rfl inlX6 5 (by decide) (v := .ref (adr Γ 17)) rfl mw_385 dX9_renewAll_20 ?_
      refine lv_iload_n hx hb dX9_renewAll_23 rfl (lv_at hl 2 rfl) ?_
      obtain ⟨hg101, h⟩ := chk_some h
      refine r_ild X.1 hH (by decide) rfl hg101 dX9_renewAll_24 ?_
      obtain ⟨r103, hq102, h⟩ := bnd_some h
      refine r_callVI X.1 hl hH (As := [.int (σ.1 17 0 x2.toNatClampNeg)]) (rest := []) (c_X9_reasonOf l X.1.2.2.2.2.2.2.1 σ i0 hi0 (σ.1 17 0 x2.toNatClampNeg) _ hq102) (cw_V X.1 1 mw_293 mw_386 mw_291 mw_292 mw_24 rfl rfl (by decide +kernel) ⟨Nat.le_of_ble_eq_true rfl, Nat.le_of_ble_eq_true rfl⟩) (r_recv X.1 hH (kW_lt hi0) (dW0 _ hi0) rfl) rfl rfl (Nat.le_of_ble_eq_true rfl) dX9_renewAll_25 ⟨Nat.zero_le _, Nat.zero_le _⟩ (fun H locs hH => ?_)
      refine lv_if_eq (tgt := 48) hx hb dX9_renewAll_28 (by decide) (fun hc => ?_) (fun hc => ?_)
      · replace h := if_t h hc
        refine lv_iinc (v := x2 + 1) (lv' := [(2, .int (x2 + 1)), (0, .ref (adr Γ (kW i0))), (1, .int x1)]) hx hb dX9_renewAll_48 hl (k := 2) rfl rfl (by decide) rfl (fun ls hl => ?_)
        refine lv_goto (tgt := 4) hx hb dX9_renewAll_51 (by decide) ?_
        exact ih σ x1 (x2 + 1) h _ _ _ hH (lv_sub hl [1, 2, 0] rfl)
      · replace h := if_f h hc
        refine lv_aload_n hx hb dX9_renewAll_31 rfl (lv_at hl 0 rfl) ?_
        refine lv_aload_n hx hb dX9_renewAll_32 rfl (lv_at hl 0 rfl) ?_
        refine r_get X.1 hH (kW_lt hi0) (dW0 _ hi0) rfl inlX9 2 (by decide) (v := .ref (adr Γ 12)) rfl mw_66 dX9_renewAll_33 ?_
        refine r_get X.1 hH (by decide) rfl rfl inlX6 5 (by decide) (v := .ref (adr Γ 17)) rfl mw_385 dX9_renewAll_36 ?_
        refine lv_iload_n hx hb dX9_renewAll_39 rfl (lv_at hl 2 rfl) ?_
        obtain ⟨hg105, h⟩ := chk_some h
        refine r_ild X.1 hH (by decide) rfl hg105 dX9_renewAll_40 ?_
        obtain ⟨σ108, r107, hq106, h⟩ := bnd2_some h
        refine r_callVI X.1 hl hH (As := [.int (σ.1 17 0 x2.toNatClampNeg)]) (rest := []) (c_X9_renew l X.1.2.2.2.2.2.2.1 σ i0 hi0 (σ.1 17 0 x2.toNatClampNeg) _ _ hq106) (cw_V X.1 1 mw_390 mw_387 mw_388 mw_389 mw_24 rfl rfl (by decide +kernel) ⟨Nat.le_of_ble_eq_true rfl, Nat.le_of_ble_eq_true rfl⟩) (r_recv X.1 hH (kW_lt hi0) (dW0 _ hi0) rfl) rfl rfl (Nat.le_of_ble_eq_true rfl) dX9_renewAll_41 ⟨Nat.zero_le _, Nat.zero_le _⟩ (fun H locs hH => ?_)
        refine lv_pop hx hb dX9_renewAll_44 rfl ?_
        refine lv_iinc (v := x1 + 1) (lv' := [(1, .int (x1 + 1)), (0, .ref (adr Γ (kW i0))), (2, .int x2)]) hx hb dX9_renewAll_45 hl (k := 1) rfl rfl (by decide) rfl (fun ls hl => ?_)
        refine lv_iinc (v := x2 + 1) (lv' := [(2, .int (x2 + 1)), (1, .int (x1 + 1)), (0, .ref (adr Γ (kW i0)))]) hx hb dX9_renewAll_48 hl (k := 2) rfl rfl (by decide) rfl (fun ls hl => ?_)
        refine lv_goto (tgt := 4) hx hb dX9_renewAll_51 (by decide) ?_
        exact ih σ108 (x1 + 1) (x2 + 1) h _ _ _ hH (lv_sub hl [2, 1, 0] rfl)
/-- CutoffMill$Works.renewAll()I -/
def m_X9_renewAll (σ : Sg) (i0 : Nat) : Option (Sg × Int32) := m_X9_renewAll_4 i0 1000 σ 0 0
set_option maxHeartbeats 4000000 in
set_option maxRecDepth 100000 in
theorem c_X9_renewAll (l : Launch) {Γ : GG} (hJ : IJ Γ) (σ : Sg) (i0 : Nat) (hi0 : i0 < 2) (σf : Sg) (rf : Int32) (h : m_X9_renewAll σ i0 = some (σf, rf)) : CI l yX9_renewAll (wy yX9_renewAll cX9_renewAll 3 (some .int)) { frames := 5, cells := 0, slots := 0, locals := 129 } Γ σ [.ref (adr Γ (kW i0))] σf rf := by
  refine met_of (by decide +kernel) hJ (Nat.le_of_ble_eq_true rfl) (fun p e s m below meth c ls X hH hl => ?_)
  have hl : lv_has ls 3 [(0, .ref (adr Γ (kW i0)))] := hl
  have hx := X.1.1
  have hb := X.1.2.1
  rw [m_X9_renewAll] at h
  refine lv_iconst (v := 0) hx hb dX9_renewAll_0 (by decide) ?_
  refine lv_istore_n (lv' := [(1, .int 0), (0, .ref (adr Γ (kW i0)))]) hx hb dX9_renewAll_1 rfl hl (by decide) rfl (fun ls hl => ?_)
  refine lv_iconst (v := 0) hx hb dX9_renewAll_2 (by decide) ?_
  refine lv_istore_n (lv' := [(2, .int 0), (1, .int 0), (0, .ref (adr Γ (kW i0)))]) hx hb dX9_renewAll_3 rfl hl (by decide) rfl (fun ls hl => ?_)
  exact b_X9_renewAll_4 X i0 hi0  1000 σ 0 0 h _ _ _ hH (lv_sub hl [2, 1, 0] rfl)
/-- CutoffMill.wouldBuild()I -/
def m_X10_wouldBuild (σ : Sg)  : Option (Sg × Int32) := bnd (m_X9_startFrom σ 1 0) (fun σ103 => bnd2 (m_X9_renewAll σ103 1) (fun σ106 r105 => some (σ106, r105)))
set_option maxHeartbeats 4000000 in
set_option maxRecDepth 100000 in
theorem c_X10_wouldBuild (l : Launch) {Γ : GG} (hJ : IJ Γ) (σ : Sg)  (σf : Sg) (rf : Int32) (h : m_X10_wouldBuild σ  = some (σf, rf)) : CI l yX10_wouldBuild (wy yX10_wouldBuild cX10_wouldBuild 1 (some .int)) { frames := 6, cells := 0, slots := 0, locals := 151 } Γ σ [.ref (adr Γ 0)] σf rf := by
  refine met_of (by decide +kernel) hJ (Nat.le_of_ble_eq_true rfl) (fun p e s m below meth c ls X hH hl => ?_)
  have hl : lv_has ls 1 [(0, .ref (adr Γ 0))] := hl
  have hx := X.1.1
  have hb := X.1.2.1
  rw [m_X10_wouldBuild] at h
  refine lv_aload_n hx hb dX10_wouldBuild_0 rfl (lv_at hl 0 rfl) ?_
  refine r_get X.1 hH (by decide) rfl rfl inlX10 4 (by decide) (v := .ref (adr Γ (kW 1))) rfl mw_26 dX10_wouldBuild_1 ?_
  refine lv_aload_n hx hb dX10_wouldBuild_4 rfl (lv_at hl 0 rfl) ?_
  refine r_get X.1 hH (by decide) rfl rfl inlX10 3 (by decide) (v := .ref (adr Γ (kW 0))) rfl mw_25 dX10_wouldBuild_5 ?_
  obtain ⟨σ103, hq101, h⟩ := bnd_some h
  refine r_callVV X.1 hl hH (r := ()) (As := [.ref (adr Γ (kW 0))]) (rest := []) (c_X9_startFrom l X.1.2.2.2.2.2.2.1 σ 1 (by omega) 0 (by omega) _ () hq101) (cw_V X.1 1 mw_370 mw_367 mw_368 mw_369 mw_24 rfl rfl (by decide +kernel) ⟨Nat.le_of_ble_eq_true rfl, Nat.le_of_ble_eq_true rfl⟩) (r_recv X.1 hH (kW_lt (by omega)) (dW0 _ (by omega)) rfl) rfl rfl (Nat.le_of_ble_eq_true rfl) dX10_wouldBuild_8 ⟨Nat.zero_le _, Nat.zero_le _⟩ (fun H locs hH => ?_)
  refine lv_aload_n hx hb dX10_wouldBuild_11 rfl (lv_at hl 0 rfl) ?_
  refine r_get X.1 hH (by decide) rfl rfl inlX10 4 (by decide) (v := .ref (adr Γ (kW 1))) rfl mw_26 dX10_wouldBuild_12 ?_
  obtain ⟨σ106, r105, hq104, h⟩ := bnd2_some h
  refine r_callVI X.1 hl hH (As := []) (rest := []) (c_X9_renewAll l X.1.2.2.2.2.2.2.1 σ103 1 (by omega) _ _ hq104) (cw_V X.1 0 mw_383 mw_380 mw_381 mw_382 mw_24 rfl rfl (by decide +kernel) ⟨Nat.le_of_ble_eq_true rfl, Nat.le_of_ble_eq_true rfl⟩) (r_recv X.1 hH (kW_lt (by omega)) (dW0 _ (by omega)) rfl) rfl rfl (Nat.le_of_ble_eq_true rfl) dX10_wouldBuild_15 ⟨Nat.zero_le _, Nat.zero_le _⟩ (fun H locs hH => ?_)
  cases h
  exact e_int X hH rfl dX10_wouldBuild_18
/-- CutoffMill$Declaration.withNumber(II)I -/
def m_X1_withNumber (σ : Sg) (x0 : Int32) (x1 : Int32) : Option Int32 := some ((x0 &&& ((-2041) : Int32)) ||| ((x1 + (99 : Int32)) <<< ((3 : Int32) &&& 31)))
set_option maxHeartbeats 4000000 in
set_option maxRecDepth 100000 in
theorem c_X1_withNumber (l : Launch) {Γ : GG} (hJ : IJ Γ) (σ : Sg) (x0 : Int32) (x1 : Int32) (rf : Int32) (h : m_X1_withNumber σ x0 x1 = some rf) : CI l yX1_withNumber (wy yX1_withNumber cX1_withNumber 2 (some .int)) { frames := 0, cells := 0, slots := 0, locals := 0 } Γ σ [.int x0, .int x1] σ rf := by
  refine met_of (by decide +kernel) hJ (Nat.le_of_ble_eq_true rfl) (fun p e s m below meth c ls X hH hl => ?_)
  have hl : lv_has ls 2 [(0, .int x0), (1, .int x1)] := hl
  have hx := X.1.1
  have hb := X.1.2.1
  rw [m_X1_withNumber] at h
  refine lv_iload_n hx hb dX1_withNumber_0 rfl (lv_at hl 0 rfl) ?_
  refine lv_sipush (v := (-2041)) hx hb dX1_withNumber_1 (by decide) ?_
  refine lv_iand hx hb dX1_withNumber_4 ?_
  refine lv_iload_n hx hb dX1_withNumber_5 rfl (lv_at hl 1 rfl) ?_
  refine lv_bipush (v := 99) hx hb dX1_withNumber_6 (by decide) ?_
  refine lv_iadd hx hb dX1_withNumber_8 ?_
  refine lv_iconst (v := 3) hx hb dX1_withNumber_9 (by decide) ?_
  refine lv_ishl hx hb dX1_withNumber_10 ?_
  refine lv_ior hx hb dX1_withNumber_11 ?_
  cases h
  exact e_int X hH rfl dX1_withNumber_12
/-- CutoffMill.builtBy(III)I -/
def m_X10_builtBy (σ : Sg) (x1 : Int32) (x2 : Int32) (x3 : Int32) : Option (Sg × Int32) := bnd (m_X10_checkModule σ x1) (fun _ => bnd (m_X10_checkWithin σ x2 0 15) (fun _ => bnd (m_X10_checkWithin σ x3 ((-99)) 99) (fun _ => bnd (m_X8_isDeclared σ 0 ((x1 * (16 : Int32)) + x2)) (fun r111 => if r111 = 0 then some (σ, 0) else bnd (m_X9_startFrom σ 1 0) (fun σ115 => bnd2 (m_X9_renewAll σ115 1) (fun σ118 r117 => chk (inb ((x1 * (16 : Int32)) + x2) 128) (bnd (m_X1_withNumber σ118 (σ118.1 26 0 ((x1 * (16 : Int32)) + x2).toNatClampNeg) x3) (fun r121 => chk (inb ((x1 * (16 : Int32)) + x2) 128) (st (wI σ118 26 1 ((x1 * (16 : Int32)) + x2).toNatClampNeg r121) (fun σ124 => bnd2 (m_X9_renewAll σ124 1) (fun σ128 r127 => some (σ128, r127))))))))))))
set_option maxHeartbeats 4000000 in
set_option maxRecDepth 100000 in
theorem c_X10_builtBy (l : Launch) {Γ : GG} (hJ : IJ Γ) (σ : Sg) (x1 : Int32) (x2 : Int32) (x3 : Int32) (σf : Sg) (rf : Int32) (h : m_X10_builtBy σ x1 x2 x3 = some (σf, rf)) : CI l yX10_builtBy (wy yX10_builtBy cX10_builtBy 5 (some .int)) { frames := 6, cells := 0, slots := 0, locals := 151 } Γ σ [.ref (adr Γ 0), .int x1, .int x2, .int x3] σf rf := by
  refine met_of (by decide +kernel) hJ (Nat.le_of_ble_eq_true rfl) (fun p e s m below meth c ls X hH hl => ?_)
  have hl : lv_has ls 5 [(0, .ref (adr Γ 0)), (1, .int x1), (2, .int x2), (3, .int x3)] := hl
  have hx := X.1.1
  have hb := X.1.2.1
  rw [m_X10_builtBy] at h
  refine lv_aload_n hx hb dX10_builtBy_0 rfl (lv_at hl 0 rfl) ?_
  refine lv_iload_n hx hb dX10_builtBy_1 rfl (lv_at hl 1 rfl) ?_
  obtain ⟨_, hq101, h⟩ := bnd_some h
  refine r_callVV X.1 hl hH (r := ()) (As := [.int x1]) (rest := []) (c_X10_checkModule l X.1.2.2.2.2.2.2.1 σ x1 () hq101) (cw_V X.1 1 mw_263 mw_260 mw_261 mw_262 mw_2 rfl rfl (by decide +kernel) ⟨Nat.le_of_ble_eq_true rfl, Nat.le_of_ble_eq_true rfl⟩) (r_recv X.1 hH (by decide) rfl rfl) rfl rfl (Nat.le_of_ble_eq_true rfl) dX10_builtBy_2 ⟨Nat.zero_le _, Nat.zero_le _⟩ (fun H locs hH => ?_)
  refine lv_iload_n hx hb dX10_builtBy_5 rfl (lv_at hl 2 rfl) ?_
  refine lv_iconst (v := 0) hx hb dX10_builtBy_6 (by decide) ?_
  refine lv_bipush (v := 15) hx hb dX10_builtBy_7 (by decide) ?_
  obtain ⟨_, hq104, h⟩ := bnd_some h
  refine r_callSV X.1 hl hH (r := ()) (As := [.int x2, .int 0, .int 15]) (rest := []) (c_X10_checkWithin l X.1.2.2.2.2.2.2.1 σ x2 0 15 () hq104) (cw_S X.1 3 mw_268 mw_266 mw_267 mw_2 rfl rfl (by decide +kernel) ⟨Nat.le_of_ble_eq_true rfl, Nat.le_of_ble_eq_true rfl⟩) rfl rfl (Nat.le_of_ble_eq_true rfl) dX10_builtBy_9 ⟨Nat.zero_le _, Nat.zero_le _⟩ (fun H locs hH => ?_)
  refine lv_iload_n hx hb dX10_builtBy_12 rfl (lv_at hl 3 rfl) ?_
  refine lv_bipush (v := (-99)) hx hb dX10_builtBy_13 (by decide) ?_
  refine lv_bipush (v := 99) hx hb dX10_builtBy_15 (by decide) ?_
  obtain ⟨_, hq107, h⟩ := bnd_some h
  refine r_callSV X.1 hl hH (r := ()) (As := [.int x3, .int ((-99)), .int 99]) (rest := []) (c_X10_checkWithin l X.1.2.2.2.2.2.2.1 σ x3 ((-99)) 99 () hq107) (cw_S X.1 3 mw_268 mw_266 mw_267 mw_2 rfl rfl (by decide +kernel) ⟨Nat.le_of_ble_eq_true rfl, Nat.le_of_ble_eq_true rfl⟩) rfl rfl (Nat.le_of_ble_eq_true rfl) dX10_builtBy_17 ⟨Nat.zero_le _, Nat.zero_le _⟩ (fun H locs hH => ?_)
  refine lv_iload_n hx hb dX10_builtBy_20 rfl (lv_at hl 1 rfl) ?_
  refine lv_bipush (v := 16) hx hb dX10_builtBy_21 (by decide) ?_
  refine lv_imul hx hb dX10_builtBy_23 ?_
  refine lv_iload_n hx hb dX10_builtBy_24 rfl (lv_at hl 2 rfl) ?_
  refine lv_iadd hx hb dX10_builtBy_25 ?_
  refine lv_istore (lv' := [(4, .int ((x1 * (16 : Int32)) + x2)), (0, .ref (adr Γ 0)), (1, .int x1), (2, .int x2), (3, .int x3)]) hx hb dX10_builtBy_26 hl (by decide) rfl (fun ls hl => ?_)
  refine lv_aload_n hx hb dX10_builtBy_28 rfl (lv_at hl 1 rfl) ?_
  refine r_get X.1 hH (by decide) rfl rfl inlX10 0 (by decide) (v := .ref (adr Γ (kT 0))) rfl mw_13 dX10_builtBy_29 ?_
  refine lv_iload hx hb dX10_builtBy_32 (lv_at hl 0 rfl) ?_
  obtain ⟨r111, hq110, h⟩ := bnd_some h
  refine r_callVI X.1 hl hH (As := [.int ((x1 * (16 : Int32)) + x2)]) (rest := []) (c_X8_isDeclared l X.1.2.2.2.2.2.2.1 σ 0 (by omega) ((x1 * (16 : Int32)) + x2) _ hq110) (cw_V X.1 1 mw_193 mw_336 mw_191 mw_192 mw_12 rfl rfl (by decide +kernel) ⟨Nat.le_of_ble_eq_true rfl, Nat.le_of_ble_eq_true rfl⟩) (r_recv X.1 hH (kT_lt (by omega)) (dT0 _ (by omega)) rfl) rfl rfl (Nat.le_of_ble_eq_true rfl) dX10_builtBy_34 ⟨Nat.zero_le _, Nat.zero_le _⟩ (fun H locs hH => ?_)
  refine lv_if_ne (tgt := 42) hx hb dX10_builtBy_37 (by decide) (fun hc => ?_) (fun hc => ?_)
  · replace h := if_f h hc
    refine lv_aload_n hx hb dX10_builtBy_42 rfl (lv_at hl 1 rfl) ?_
    refine r_get X.1 hH (by decide) rfl rfl inlX10 4 (by decide) (v := .ref (adr Γ (kW 1))) rfl mw_26 dX10_builtBy_43 ?_
    refine lv_aload_n hx hb dX10_builtBy_46 rfl (lv_at hl 1 rfl) ?_
    refine r_get X.1 hH (by decide) rfl rfl inlX10 3 (by decide) (v := .ref (adr Γ (kW 0))) rfl mw_25 dX10_builtBy_47 ?_
    obtain ⟨σ115, hq113, h⟩ := bnd_some h
    refine r_callVV X.1 hl hH (r := ()) (As := [.ref (adr Γ (kW 0))]) (rest := []) (c_X9_startFrom l X.1.2.2.2.2.2.2.1 σ 1 (by omega) 0 (by omega) _ () hq113) (cw_V X.1 1 mw_370 mw_367 mw_368 mw_369 mw_24 rfl rfl (by decide +kernel) ⟨Nat.le_of_ble_eq_true rfl, Nat.le_of_ble_eq_true rfl⟩) (r_recv X.1 hH (kW_lt (by omega)) (dW0 _ (by omega)) rfl) rfl rfl (Nat.le_of_ble_eq_true rfl) dX10_builtBy_50 ⟨Nat.zero_le _, Nat.zero_le _⟩ (fun H locs hH => ?_)
    refine lv_aload_n hx hb dX10_builtBy_53 rfl (lv_at hl 1 rfl) ?_
    refine r_get X.1 hH (by decide) rfl rfl inlX10 4 (by decide) (v := .ref (adr Γ (kW 1))) rfl mw_26 dX10_builtBy_54 ?_
    obtain ⟨σ118, r117, hq116, h⟩ := bnd2_some h
    refine r_callVI X.1 hl hH (As := []) (rest := []) (c_X9_renewAll l X.1.2.2.2.2.2.2.1 σ115 1 (by omega) _ _ hq116) (cw_V X.1 0 mw_383 mw_380 mw_381 mw_382 mw_24 rfl rfl (by decide +kernel) ⟨Nat.le_of_ble_eq_true rfl, Nat.le_of_ble_eq_true rfl⟩) (r_recv X.1 hH (kW_lt (by omega)) (dW0 _ (by omega)) rfl) rfl rfl (Nat.le_of_ble_eq_true rfl) dX10_builtBy_57 ⟨Nat.zero_le _, Nat.zero_le _⟩ (fun H locs hH => ?_)
    refine lv_pop hx hb dX10_builtBy_60 rfl ?_
    refine lv_aload_n hx hb dX10_builtBy_61 rfl (lv_at hl 1 rfl) ?_
    refine r_get X.1 hH (by decide) rfl rfl inlX10 4 (by decide) (v := .ref (adr Γ (kW 1))) rfl mw_26 dX10_builtBy_62 ?_
    refine r_get X.1 hH (kW_lt (by omega)) (dW0 _ (by omega)) rfl inlX9 0 (by decide) (v := .ref (adr Γ (kT 1))) rfl mw_679 dX10_builtBy_65 ?_
    refine r_get X.1 hH (kT_lt (by omega)) (dT0 _ (by omega)) rfl inlX8 0 (by decide) (v := .ref (adr Γ (kT 1 + 1))) rfl mw_335 dX10_builtBy_68 ?_
    refine lv_iload hx hb dX10_builtBy_71 (lv_at hl 0 rfl) ?_
    refine lv_aload_n hx hb dX10_builtBy_73 rfl (lv_at hl 1 rfl) ?_
    refine r_get X.1 hH (by decide) rfl rfl inlX10 0 (by decide) (v := .ref (adr Γ (kT 0))) rfl mw_13 dX10_builtBy_74 ?_
    refine r_get X.1 hH (kT_lt (by omega)) (dT0 _ (by omega)) rfl inlX8 0 (by decide) (v := .ref (adr Γ (kT 0 + 1))) rfl mw_335 dX10_builtBy_77 ?_
    refine lv_iload hx hb dX10_builtBy_80 (lv_at hl 0 rfl) ?_
    obtain ⟨hg119, h⟩ := chk_some h
    refine r_ild X.1 hH (lT1 _ (by omega)) (dT1 _ (by omega)) hg119 dX10_builtBy_82 ?_
    refine lv_iload_n hx hb dX10_builtBy_83 rfl (lv_at hl 4 rfl) ?_
    obtain ⟨r121, hq120, h⟩ := bnd_some h
    refine r_callSI X.1 hl hH (As := [.int (σ118.1 26 0 ((x1 * (16 : Int32)) + x2).toNatClampNeg), .int x3]) (rest := [.int ((x1 * (16 : Int32)) + x2), .ref (adr Γ (kT 1 + 1))]) (c_X1_withNumber l X.1.2.2.2.2.2.2.1 σ118 (σ118.1 26 0 ((x1 * (16 : Int32)) + x2).toNatClampNeg) x3 _ hq120) (cw_S X.1 2 mw_682 mw_680 mw_681 mw_196 rfl rfl (by decide +kernel) ⟨Nat.le_of_ble_eq_true rfl, Nat.le_of_ble_eq_true rfl⟩) rfl rfl (Nat.le_of_ble_eq_true rfl) dX10_builtBy_84 ⟨Nat.zero_le _, Nat.zero_le _⟩ (fun H locs hH => ?_)
    obtain ⟨hg123, h⟩ := chk_some h
    obtain ⟨σ124, e125, h⟩ := st_some h
    refine r_ist X.1 hH (lT1 _ (by omega)) (dT1 _ (by omega)) hg123 dX10_builtBy_87 (fun H locs hH => ?_)
    replace hH : HW (IA Γ) Γ σ124 s.heap H locs := by rw [e125]; exact hH
    refine lv_aload_n hx hb dX10_builtBy_88 rfl (lv_at hl 1 rfl) ?_
    refine r_get X.1 hH (by decide) rfl rfl inlX10 4 (by decide) (v := .ref (adr Γ (kW 1))) rfl mw_26 dX10_builtBy_89 ?_
    obtain ⟨σ128, r127, hq126, h⟩ := bnd2_some h
    refine r_callVI X.1 hl hH (As := []) (rest := []) (c_X9_renewAll l X.1.2.2.2.2.2.2.1 σ124 1 (by omega) _ _ hq126) (cw_V X.1 0 mw_383 mw_380 mw_381 mw_382 mw_24 rfl rfl (by decide +kernel) ⟨Nat.le_of_ble_eq_true rfl, Nat.le_of_ble_eq_true rfl⟩) (r_recv X.1 hH (kW_lt (by omega)) (dW0 _ (by omega)) rfl) rfl rfl (Nat.le_of_ble_eq_true rfl) dX10_builtBy_92 ⟨Nat.zero_le _, Nat.zero_le _⟩ (fun H locs hH => ?_)
    cases h
    exact e_int X hH rfl dX10_builtBy_95
  · replace h := if_t h hc
    refine lv_iconst (v := 0) hx hb dX10_builtBy_40 (by decide) ?_
    cases h
    exact e_int X hH rfl dX10_builtBy_41
def m_X9_staleModules_4 (σ : Sg) (i0 : Nat)  : Nat → Int32 → Int32 → Option Int32
  | 0, _, _ => none
  | n + 1, x1, x2 => if (σ.1 18 0 0) ≤ x2 then some x1 else chk (inb x2 8) (bnd (m_X9_reasonOf σ i0 (σ.1 17 0 x2.toNatClampNeg)) (fun r103 => if r103 = 0 then m_X9_staleModules_4 σ i0 n x1 (x2 + 1) else chk (inb x2 8) (m_X9_staleModules_4 σ i0 n (x1 ||| (σ.1 17 0 x2.toNatClampNeg)) (x2 + 1))))
set_option maxHeartbeats 4000000 in
set_option maxRecDepth 100000 in
theorem b_X9_staleModules_4 {p : Program} {l : Launch} {e : Env} {s : State} {m : MethodId} {args : Array Value} {below : List Frame} {meth : Method} {c : Code} {Γ : GG} (X : MB Γ p s m args meth c cX9_staleModules 3 RX9 (some .int)) (σ : Sg) {rf : Int32} (i0 : Nat) (hi0 : i0 < 2) : ∀ (n : Nat), (∀ (x1 : Int32) (x2 : Int32), (m_X9_staleModules_4 σ i0 n) x1 x2 = some rf → ∀ (H : Heap) (locs : List Loc) (ls : Array Slot), HW (IA Γ) Γ σ s.heap H locs → lv_has ls 3 [(0, .ref (adr Γ (kW i0))), (1, .int x1), (2, .int x2)] → W p l e ({ frames := 4, cells := 0, slots := 0, locals := 89 } : Room) s m args below meth c H locs 0 0 (QI Γ σ rf below args s) (F0 m 4 ls [])) := by
  have hx := X.1.1
  have hb := X.1.2.1
  intro n
  induction n with
  | zero => intro x1 x2 h; rw [m_X9_staleModules_4] at h; cases h
  | succ n ih =>
    intro x1 x2 h H locs ls hH hl
    rw [m_X9_staleModules_4] at h
    refine lv_iload_n hx hb dX9_staleModules_4 rfl (lv_at hl 2 rfl) ?_
    refine lv_aload_n hx hb dX9_staleModules_5 rfl (lv_at hl 0 rfl) ?_
    refine r_get X.1 hH (kW_lt hi0) (dW0 _ hi0) rfl inlX9 2 (by decide) (v := .ref (adr Γ 12)) rfl mw_66 dX9_staleModules_6 ?_
    refine r_get X.1 hH (by decide) rfl rfl inlX6 6 (by decide) (v := .int (σ.1 18 0 0)) rfl mw_384 dX9_staleModules_9 ?_
    refine lv_icmp_ge (tgt := 49) hx hb dX9_staleModules_12 (by decide) (fun hc => ?_) (fun hc => ?_)
    · replace h := if_t h hc
      refine lv_iload_n hx hb dX9_staleModules_49 rfl (lv_at hl 1 rfl) ?_
      cases h
      exact e_int X hH rfl dX9_staleModules_50
    · replace h := if_f h hc
      refine lv_aload_n hx hb dX9_staleModules_15 rfl (lv_at hl 0 rfl) ?_
      refine lv_aload_n hx hb dX9_staleModules_16 rfl (lv_at hl 0 rfl) ?_
      refine r_get X.1 hH (kW_lt hi0) (dW0 _ hi0) rfl inlX9 2 (by decide) (v := .ref (adr Γ 12)) rfl mw_66 dX9_staleModules_17 ?_
      refine r_get X.1 hH (by decide) rfl rfl inlX6 5 (by decide) (v := .ref (adr Γ 17)) rfl mw_385 dX9_staleModules_20 ?_
      refine lv_iload_n hx hb dX9_staleModules_23 rfl (lv_at hl 2 rfl) ?_
      obtain ⟨hg101, h⟩ := chk_some h
      refine r_ild X.1 hH (by decide) rfl hg101 dX9_staleModules_24 ?_
      obtain ⟨r103, hq102, h⟩ := bnd_some h
      refine r_callVI X.1 hl hH (As := [.int (σ.1 17 0 x2.toNatClampNeg)]) (rest := []) (c_X9_reasonOf l X.1.2.2.2.2.2.2.1 σ i0 hi0 (σ.1 17 0 x2.toNatClampNeg) _ hq102) (cw_V X.1 1 mw_293 mw_386 mw_291 mw_292 mw_24 rfl rfl (by decide +kernel) ⟨Nat.le_of_ble_eq_true rfl, Nat.le_of_ble_eq_true rfl⟩) (r_recv X.1 hH (kW_lt hi0) (dW0 _ hi0) rfl) rfl rfl (Nat.le_of_ble_eq_true rfl) dX9_staleModules_25 ⟨Nat.zero_le _, Nat.zero_le _⟩ (fun H locs hH => ?_)
      refine lv_if_eq (tgt := 43) hx hb dX9_staleModules_28 (by decide) (fun hc => ?_) (fun hc => ?_)
      · replace h := if_t h hc
        refine lv_iinc (v := x2 + 1) (lv' := [(2, .int (x2 + 1)), (0, .ref (adr Γ (kW i0))), (1, .int x1)]) hx hb dX9_staleModules_43 hl (k := 2) rfl rfl (by decide) rfl (fun ls hl => ?_)
        refine lv_goto (tgt := 4) hx hb dX9_staleModules_46 (by decide) ?_
        exact ih  x1 (x2 + 1) h _ _ _ hH (lv_sub hl [1, 2, 0] rfl)
      · replace h := if_f h hc
        refine lv_iload_n hx hb dX9_staleModules_31 rfl (lv_at hl 1 rfl) ?_
        refine lv_aload_n hx hb dX9_staleModules_32 rfl (lv_at hl 0 rfl) ?_
        refine r_get X.1 hH (kW_lt hi0) (dW0 _ hi0) rfl inlX9 2 (by decide) (v := .ref (adr Γ 12)) rfl mw_66 dX9_staleModules_33 ?_
        refine r_get X.1 hH (by decide) rfl rfl inlX6 5 (by decide) (v := .ref (adr Γ 17)) rfl mw_385 dX9_staleModules_36 ?_
        refine lv_iload_n hx hb dX9_staleModules_39 rfl (lv_at hl 2 rfl) ?_
        obtain ⟨hg105, h⟩ := chk_some h
        refine r_ild X.1 hH (by decide) rfl hg105 dX9_staleModules_40 ?_
        refine lv_ior hx hb dX9_staleModules_41 ?_
        refine lv_istore_n (lv' := [(1, .int (x1 ||| (σ.1 17 0 x2.toNatClampNeg))), (0, .ref (adr Γ (kW i0))), (2, .int x2)]) hx hb dX9_staleModules_42 rfl hl (by decide) rfl (fun ls hl => ?_)
        refine lv_iinc (v := x2 + 1) (lv' := [(2, .int (x2 + 1)), (1, .int (x1 ||| (σ.1 17 0 x2.toNatClampNeg))), (0, .ref (adr Γ (kW i0)))]) hx hb dX9_staleModules_43 hl (k := 2) rfl rfl (by decide) rfl (fun ls hl => ?_)
        refine lv_goto (tgt := 4) hx hb dX9_staleModules_46 (by decide) ?_
        exact ih  (x1 ||| (σ.1 17 0 x2.toNatClampNeg)) (x2 + 1) h _ _ _ hH (lv_sub hl [2, 1, 0] rfl)
/-- CutoffMill$Works.staleModules()I -/
def m_X9_staleModules (σ : Sg) (i0 : Nat) : Option Int32 := m_X9_staleModules_4 σ i0 1000 0 0
set_option maxHeartbeats 4000000 in
set_option maxRecDepth 100000 in
theorem c_X9_staleModules (l : Launch) {Γ : GG} (hJ : IJ Γ) (σ : Sg) (i0 : Nat) (hi0 : i0 < 2) (rf : Int32) (h : m_X9_staleModules σ i0 = some rf) : CI l yX9_staleModules (wy yX9_staleModules cX9_staleModules 3 (some .int)) { frames := 4, cells := 0, slots := 0, locals := 89 } Γ σ [.ref (adr Γ (kW i0))] σ rf := by
  refine met_of (by decide +kernel) hJ (Nat.le_of_ble_eq_true rfl) (fun p e s m below meth c ls X hH hl => ?_)
  have hl : lv_has ls 3 [(0, .ref (adr Γ (kW i0)))] := hl
  have hx := X.1.1
  have hb := X.1.2.1
  rw [m_X9_staleModules] at h
  refine lv_iconst (v := 0) hx hb dX9_staleModules_0 (by decide) ?_
  refine lv_istore_n (lv' := [(1, .int 0), (0, .ref (adr Γ (kW i0)))]) hx hb dX9_staleModules_1 rfl hl (by decide) rfl (fun ls hl => ?_)
  refine lv_iconst (v := 0) hx hb dX9_staleModules_2 (by decide) ?_
  refine lv_istore_n (lv' := [(2, .int 0), (1, .int 0), (0, .ref (adr Γ (kW i0)))]) hx hb dX9_staleModules_3 rfl hl (by decide) rfl (fun ls hl => ?_)
  exact b_X9_staleModules_4 X σ i0 hi0  1000  0 0 h _ _ _ hH (lv_sub hl [2, 1, 0] rfl)
