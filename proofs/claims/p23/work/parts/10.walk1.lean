/-! WALKS, laid by wip/p23/gen.py: J7_fill_53178, X8_importAt, X2_isAgain, X2_isOfAll, X2_from, X2_under, X2_source, X4_settleImport, X4_settleImports, X8_isDeclared, X1_isPublic, X6_has, X4_joined, X4_broughtTo, X4_lookedUp, X4_settleOutside -/
def m_J7_fill_53178_5 (ca0 oa0 na0 : Nat) (x1 : Int32)  : Nat → Sg → Int32 → Int32 → Option Sg
  | 0, _, _, _ => none
  | n + 1, σ, x2, x3 => if x3 ≤ x2 then some σ else chk (inb x2 na0) (st (wI σ ca0 oa0 x2.toNatClampNeg x1) (fun σ102 => m_J7_fill_53178_5 ca0 oa0 na0 x1 n σ102 (x2 + 1) x3))
set_option maxHeartbeats 4000000 in
set_option maxRecDepth 100000 in
theorem b_J7_fill_53178_5 {p : Program} {l : Launch} {e : Env} {s : State} {m : MethodId} {args : Array Value} {below : List Frame} {meth : Method} {c : Code} {Γ : GG} (X : MB Γ p s m args meth c cJ7_fill_53178 4 RJ7 none) {σf : Sg} {rf : Unit} (ca0 oa0 na0 ka0 : Nat) (hka0 : ka0 < 440) (hda0 : desc ka0 = (0, ca0, oa0, na0)) (x1 : Int32) : ∀ (n : Nat), (∀ (σ : Sg) (x2 : Int32) (x3 : Int32), (m_J7_fill_53178_5 ca0 oa0 na0 x1 n) σ x2 x3 = some σf → ∀ (H : Heap) (locs : List Loc) (ls : Array Slot), HW (IA Γ) Γ σ s.heap H locs → lv_has ls 4 [(0, .ref (adr Γ ka0)), (1, .int x1), (2, .int x2), (3, .int x3)] → W p l e ({ frames := 0, cells := 0, slots := 0, locals := 0 } : Room) s m args below meth c H locs 0 0 (QV Γ σf rf below args s) (F0 m 5 ls [])) := by
  have hx := X.1.1
  have hb := X.1.2.1
  intro n
  induction n with
  | zero => intro σ x2 x3 h; rw [m_J7_fill_53178_5] at h; cases h
  | succ n ih =>
    intro σ x2 x3 h H locs ls hH hl
    rw [m_J7_fill_53178_5] at h
    refine lv_iload_n hx hb dJ7_fill_53178_5 rfl (lv_at hl 2 rfl) ?_
    refine lv_iload_n hx hb dJ7_fill_53178_6 rfl (lv_at hl 3 rfl) ?_
    refine lv_icmp_ge (tgt := 20) hx hb dJ7_fill_53178_7 (by decide) (fun hc => ?_) (fun hc => ?_)
    · replace h := if_t h hc
      cases h
      exact e_void (v := rf) X hH dJ7_fill_53178_20
    · replace h := if_f h hc
      refine lv_aload_n hx hb dJ7_fill_53178_10 rfl (lv_at hl 0 rfl) ?_
      refine lv_iload_n hx hb dJ7_fill_53178_11 rfl (lv_at hl 2 rfl) ?_
      refine lv_iload_n hx hb dJ7_fill_53178_12 rfl (lv_at hl 1 rfl) ?_
      obtain ⟨hg101, h⟩ := chk_some h
      obtain ⟨σ102, e103, h⟩ := st_some h
      refine r_ist X.1 hH hka0 hda0 hg101 dJ7_fill_53178_13 (fun H locs hH => ?_)
      replace hH : HW (IA Γ) Γ σ102 s.heap H locs := by rw [e103]; exact hH
      refine lv_iinc (v := x2 + 1) (lv' := [(2, .int (x2 + 1)), (0, .ref (adr Γ ka0)), (1, .int x1), (3, .int x3)]) hx hb dJ7_fill_53178_14 hl (k := 2) rfl rfl (by decide) rfl (fun ls hl => ?_)
      refine lv_goto (tgt := 5) hx hb dJ7_fill_53178_17 (by decide) ?_
      exact ih σ102 (x2 + 1) x3 h _ _ _ hH (lv_sub hl [1, 2, 0, 3] rfl)
/-- java/util/Arrays.fill([II)V -/
def m_J7_fill_53178 (σ : Sg) (ca0 oa0 na0 : Nat) (x1 : Int32) : Option Sg := m_J7_fill_53178_5 ca0 oa0 na0 x1 1000 σ 0 ((Int32.ofNat na0))
set_option maxHeartbeats 4000000 in
set_option maxRecDepth 100000 in
theorem c_J7_fill_53178 (l : Launch) {Γ : GG} (hJ : IJ Γ) (σ : Sg) (ca0 oa0 na0 ka0 : Nat) (hka0 : ka0 < 440) (hda0 : desc ka0 = (0, ca0, oa0, na0)) (x1 : Int32) (σf : Sg) (rf : Unit) (h : m_J7_fill_53178 σ ca0 oa0 na0 x1 = some σf) : CV l yJ7_fill_53178 (wy yJ7_fill_53178 cJ7_fill_53178 4 none) { frames := 0, cells := 0, slots := 0, locals := 0 } Γ σ [.ref (adr Γ ka0), .int x1] σf rf := by
  refine met_of (by decide +kernel) hJ (Nat.le_of_ble_eq_true rfl) (fun p e s m below meth c ls X hH hl => ?_)
  have hl : lv_has ls 4 [(0, .ref (adr Γ ka0)), (1, .int x1)] := hl
  have hx := X.1.1
  have hb := X.1.2.1
  rw [m_J7_fill_53178] at h
  refine lv_iconst (v := 0) hx hb dJ7_fill_53178_0 (by decide) ?_
  refine lv_istore_n (lv' := [(2, .int 0), (0, .ref (adr Γ ka0)), (1, .int x1)]) hx hb dJ7_fill_53178_1 rfl hl (by decide) rfl (fun ls hl => ?_)
  refine lv_aload_n hx hb dJ7_fill_53178_2 rfl (lv_at hl 1 rfl) ?_
  refine r_len X.1 hH (v := (Int32.ofNat na0)) hka0 hda0 (by decide) rfl dJ7_fill_53178_3 ?_
  refine lv_istore_n (lv' := [(3, .int ((Int32.ofNat na0))), (2, .int 0), (0, .ref (adr Γ ka0)), (1, .int x1)]) hx hb dJ7_fill_53178_4 rfl hl (by decide) rfl (fun ls hl => ?_)
  exact b_J7_fill_53178_5 (rf := ()) X ca0 oa0 na0 ka0 hka0 hda0 x1  1000 σ 0 ((Int32.ofNat na0)) h _ _ _ hH (lv_sub hl [2, 3, 1, 0] rfl)
/-- CutoffMill$Texts.importAt(II)I -/
def m_X8_importAt (σ : Sg) (i0 : Nat) (x1 : Int32) (x2 : Int32) : Option Int32 := chk (inb ((x1 * (5 : Int32)) + x2) 40) (some (σ.1 27 i0 ((x1 * (5 : Int32)) + x2).toNatClampNeg))
set_option maxHeartbeats 4000000 in
set_option maxRecDepth 100000 in
theorem c_X8_importAt (l : Launch) {Γ : GG} (hJ : IJ Γ) (σ : Sg) (i0 : Nat) (hi0 : i0 < 32) (x1 : Int32) (x2 : Int32) (rf : Int32) (h : m_X8_importAt σ i0 x1 x2 = some rf) : CI l yX8_importAt (wy yX8_importAt cX8_importAt 3 (some .int)) { frames := 0, cells := 0, slots := 0, locals := 0 } Γ σ [.ref (adr Γ (kT i0)), .int x1, .int x2] σ rf := by
  refine met_of (by decide +kernel) hJ (Nat.le_of_ble_eq_true rfl) (fun p e s m below meth c ls X hH hl => ?_)
  have hl : lv_has ls 3 [(0, .ref (adr Γ (kT i0))), (1, .int x1), (2, .int x2)] := hl
  have hx := X.1.1
  have hb := X.1.2.1
  rw [m_X8_importAt] at h
  refine lv_aload_n hx hb dX8_importAt_0 rfl (lv_at hl 0 rfl) ?_
  refine r_get X.1 hH (kT_lt (by omega)) (dT0 _ (by omega)) rfl inlX8 1 (by decide) (v := .ref (adr Γ (kT i0 + 2))) rfl mw_34 dX8_importAt_1 ?_
  refine lv_iload_n hx hb dX8_importAt_4 rfl (lv_at hl 1 rfl) ?_
  refine lv_iconst (v := 5) hx hb dX8_importAt_5 (by decide) ?_
  refine lv_imul hx hb dX8_importAt_6 ?_
  refine lv_iload_n hx hb dX8_importAt_7 rfl (lv_at hl 2 rfl) ?_
  refine lv_iadd hx hb dX8_importAt_8 ?_
  obtain ⟨hg101, h⟩ := chk_some h
  refine r_ild X.1 hH (lT2 _ (by omega)) (dT2 _ (by omega)) hg101 dX8_importAt_9 ?_
  cases h
  exact e_int X hH rfl dX8_importAt_10
/-- CutoffMill$Import.isAgain(I)Z -/
def m_X2_isAgain (σ : Sg) (x0 : Int32) : Option Int32 := if ((x0 >>> ((12 : Int32) &&& 31)) &&& (1 : Int32)) = 1 then some 1 else some 0
set_option maxHeartbeats 4000000 in
set_option maxRecDepth 100000 in
theorem c_X2_isAgain (l : Launch) {Γ : GG} (hJ : IJ Γ) (σ : Sg) (x0 : Int32) (rf : Int32) (h : m_X2_isAgain σ x0 = some rf) : CI l yX2_isAgain (wy yX2_isAgain cX2_isAgain 1 (some .boolean)) { frames := 0, cells := 0, slots := 0, locals := 0 } Γ σ [.int x0] σ rf := by
  refine met_of (by decide +kernel) hJ (Nat.le_of_ble_eq_true rfl) (fun p e s m below meth c ls X hH hl => ?_)
  have hl : lv_has ls 1 [(0, .int x0)] := hl
  have hx := X.1.1
  have hb := X.1.2.1
  rw [m_X2_isAgain] at h
  refine lv_iload_n hx hb dX2_isAgain_0 rfl (lv_at hl 0 rfl) ?_
  refine lv_bipush (v := 12) hx hb dX2_isAgain_1 (by decide) ?_
  refine lv_ishr hx hb dX2_isAgain_3 ?_
  refine lv_iconst (v := 1) hx hb dX2_isAgain_4 (by decide) ?_
  refine lv_iand hx hb dX2_isAgain_5 ?_
  refine lv_iconst (v := 1) hx hb dX2_isAgain_6 (by decide) ?_
  refine lv_icmp_ne (tgt := 14) hx hb dX2_isAgain_7 (by decide) (fun hc => ?_) (fun hc => ?_)
  · replace h := if_f h hc
    refine lv_iconst (v := 0) hx hb dX2_isAgain_14 (by decide) ?_
    cases h
    exact e_int X hH rfl dX2_isAgain_15
  · replace h := if_t h hc
    refine lv_iconst (v := 1) hx hb dX2_isAgain_10 (by decide) ?_
    refine lv_goto (tgt := 15) hx hb dX2_isAgain_11 (by decide) ?_
    cases h
    exact e_int X hH rfl dX2_isAgain_15
/-- CutoffMill$Import.isOfAll(I)Z -/
def m_X2_isOfAll (σ : Sg) (x0 : Int32) : Option Int32 := if ((x0 >>> ((3 : Int32) &&& 31)) &&& (31 : Int32)) = 0 then some 1 else some 0
set_option maxHeartbeats 4000000 in
set_option maxRecDepth 100000 in
theorem c_X2_isOfAll (l : Launch) {Γ : GG} (hJ : IJ Γ) (σ : Sg) (x0 : Int32) (rf : Int32) (h : m_X2_isOfAll σ x0 = some rf) : CI l yX2_isOfAll (wy yX2_isOfAll cX2_isOfAll 1 (some .boolean)) { frames := 0, cells := 0, slots := 0, locals := 0 } Γ σ [.int x0] σ rf := by
  refine met_of (by decide +kernel) hJ (Nat.le_of_ble_eq_true rfl) (fun p e s m below meth c ls X hH hl => ?_)
  have hl : lv_has ls 1 [(0, .int x0)] := hl
  have hx := X.1.1
  have hb := X.1.2.1
  rw [m_X2_isOfAll] at h
  refine lv_iload_n hx hb dX2_isOfAll_0 rfl (lv_at hl 0 rfl) ?_
  refine lv_iconst (v := 3) hx hb dX2_isOfAll_1 (by decide) ?_
  refine lv_ishr hx hb dX2_isOfAll_2 ?_
  refine lv_bipush (v := 31) hx hb dX2_isOfAll_3 (by decide) ?_
  refine lv_iand hx hb dX2_isOfAll_5 ?_
  refine lv_if_ne (tgt := 13) hx hb dX2_isOfAll_6 (by decide) (fun hc => ?_) (fun hc => ?_)
  · replace h := if_f h hc
    refine lv_iconst (v := 0) hx hb dX2_isOfAll_13 (by decide) ?_
    cases h
    exact e_int X hH rfl dX2_isOfAll_14
  · replace h := if_t h hc
    refine lv_iconst (v := 1) hx hb dX2_isOfAll_9 (by decide) ?_
    refine lv_goto (tgt := 14) hx hb dX2_isOfAll_10 (by decide) ?_
    cases h
    exact e_int X hH rfl dX2_isOfAll_14
/-- CutoffMill$Import.from(I)I -/
def m_X2_from (σ : Sg) (x0 : Int32) : Option Int32 := some (x0 &&& (7 : Int32))
set_option maxHeartbeats 4000000 in
set_option maxRecDepth 100000 in
theorem c_X2_from (l : Launch) {Γ : GG} (hJ : IJ Γ) (σ : Sg) (x0 : Int32) (rf : Int32) (h : m_X2_from σ x0 = some rf) : CI l yX2_from (wy yX2_from cX2_from 1 (some .int)) { frames := 0, cells := 0, slots := 0, locals := 0 } Γ σ [.int x0] σ rf := by
  refine met_of (by decide +kernel) hJ (Nat.le_of_ble_eq_true rfl) (fun p e s m below meth c ls X hH hl => ?_)
  have hl : lv_has ls 1 [(0, .int x0)] := hl
  have hx := X.1.1
  have hb := X.1.2.1
  rw [m_X2_from] at h
  refine lv_iload_n hx hb dX2_from_0 rfl (lv_at hl 0 rfl) ?_
  refine lv_bipush (v := 7) hx hb dX2_from_1 (by decide) ?_
  refine lv_iand hx hb dX2_from_3 ?_
  cases h
  exact e_int X hH rfl dX2_from_4
/-- CutoffMill$Import.under(I)I -/
def m_X2_under (σ : Sg) (x0 : Int32) : Option Int32 := some ((x0 >>> ((8 : Int32) &&& 31)) &&& (15 : Int32))
set_option maxHeartbeats 4000000 in
set_option maxRecDepth 100000 in
theorem c_X2_under (l : Launch) {Γ : GG} (hJ : IJ Γ) (σ : Sg) (x0 : Int32) (rf : Int32) (h : m_X2_under σ x0 = some rf) : CI l yX2_under (wy yX2_under cX2_under 1 (some .int)) { frames := 0, cells := 0, slots := 0, locals := 0 } Γ σ [.int x0] σ rf := by
  refine met_of (by decide +kernel) hJ (Nat.le_of_ble_eq_true rfl) (fun p e s m below meth c ls X hH hl => ?_)
  have hl : lv_has ls 1 [(0, .int x0)] := hl
  have hx := X.1.1
  have hb := X.1.2.1
  rw [m_X2_under] at h
  refine lv_iload_n hx hb dX2_under_0 rfl (lv_at hl 0 rfl) ?_
  refine lv_bipush (v := 8) hx hb dX2_under_1 (by decide) ?_
  refine lv_ishr hx hb dX2_under_3 ?_
  refine lv_bipush (v := 15) hx hb dX2_under_4 (by decide) ?_
  refine lv_iand hx hb dX2_under_6 ?_
  cases h
  exact e_int X hH rfl dX2_under_7
/-- CutoffMill$Import.source(I)I -/
def m_X2_source (σ : Sg) (x0 : Int32) : Option Int32 := bnd (m_X2_from σ x0) (fun r102 => some (((r102 * (16 : Int32)) + ((x0 >>> ((3 : Int32) &&& 31)) &&& (31 : Int32))) - (1 : Int32)))
set_option maxHeartbeats 4000000 in
set_option maxRecDepth 100000 in
theorem c_X2_source (l : Launch) {Γ : GG} (hJ : IJ Γ) (σ : Sg) (x0 : Int32) (rf : Int32) (h : m_X2_source σ x0 = some rf) : CI l yX2_source (wy yX2_source cX2_source 1 (some .int)) { frames := 1, cells := 0, slots := 0, locals := 20 } Γ σ [.int x0] σ rf := by
  refine met_of (by decide +kernel) hJ (Nat.le_of_ble_eq_true rfl) (fun p e s m below meth c ls X hH hl => ?_)
  have hl : lv_has ls 1 [(0, .int x0)] := hl
  have hx := X.1.1
  have hb := X.1.2.1
  rw [m_X2_source] at h
  refine lv_iload_n hx hb dX2_source_0 rfl (lv_at hl 0 rfl) ?_
  obtain ⟨r102, hq101, h⟩ := bnd_some h
  refine r_callSI X.1 hl hH (As := [.int x0]) (rest := []) (c_X2_from l X.1.2.2.2.2.2.2.1 σ x0 _ hq101) (cw_S X.1 1 mw_173 mw_180 mw_172 mw_166 rfl rfl (by decide +kernel) ⟨Nat.le_of_ble_eq_true rfl, Nat.le_of_ble_eq_true rfl⟩) rfl rfl (Nat.le_of_ble_eq_true rfl) dX2_source_1 ⟨Nat.zero_le _, Nat.zero_le _⟩ (fun H locs hH => ?_)
  refine lv_bipush (v := 16) hx hb dX2_source_4 (by decide) ?_
  refine lv_imul hx hb dX2_source_6 ?_
  refine lv_iload_n hx hb dX2_source_7 rfl (lv_at hl 0 rfl) ?_
  refine lv_iconst (v := 3) hx hb dX2_source_8 (by decide) ?_
  refine lv_ishr hx hb dX2_source_9 ?_
  refine lv_bipush (v := 31) hx hb dX2_source_10 (by decide) ?_
  refine lv_iand hx hb dX2_source_12 ?_
  refine lv_iadd hx hb dX2_source_13 ?_
  refine lv_iconst (v := 1) hx hb dX2_source_14 (by decide) ?_
  refine lv_isub hx hb dX2_source_15 ?_
  cases h
  exact e_int X hH rfl dX2_source_16
/-- CutoffMill$Names.settleImport(II)V -/
def m_X4_settleImport (σ : Sg) (x1 : Int32) (x2 : Int32) : Option Sg := bnd (m_X2_isAgain σ x2) (fun r102 => bnd (m_X2_isOfAll σ x2) (fun r105 => if r105 = 0 then bnd (m_X2_under σ x2) (fun r108 => bnd (m_X2_source σ x2) (fun r111 => chk (inb ((x1 * (16 : Int32)) + r108) 128) (st (wI σ 9 0 ((x1 * (16 : Int32)) + r108).toNatClampNeg r111) (fun σ114 => if r102 = 0 then some σ114 else chk (inb ((x1 * (16 : Int32)) + r108) 128) (chk (inb ((x1 * (16 : Int32)) + r108) 128) (st (wI σ114 10 0 ((x1 * (16 : Int32)) + r108).toNatClampNeg (σ114.1 9 0 ((x1 * (16 : Int32)) + r108).toNatClampNeg)) (fun σ118 => some σ118))))))) else chk (inb x1 8) (bnd (m_X2_from σ x2) (fun r122 => chk (inb x1 8) (st (wI σ 11 0 x1.toNatClampNeg ((σ.1 11 0 x1.toNatClampNeg) ||| ((1 : Int32) <<< (r122 &&& 31)))) (fun σ125 => chk (inb x1 8) (if r102 = 0 then chk (inb x1 8) (st (wI σ125 12 0 x1.toNatClampNeg ((σ125.1 12 0 x1.toNatClampNeg) ||| (0 : Int32))) (fun σ129 => some σ129)) else bnd (m_X2_from σ125 x2) (fun r132 => chk (inb x1 8) (st (wI σ125 12 0 x1.toNatClampNeg ((σ125.1 12 0 x1.toNatClampNeg) ||| ((1 : Int32) <<< (r132 &&& 31)))) (fun σ135 => some σ135))))))))))
set_option maxHeartbeats 4000000 in
set_option maxRecDepth 100000 in
theorem c_X4_settleImport (l : Launch) {Γ : GG} (hJ : IJ Γ) (σ : Sg) (x1 : Int32) (x2 : Int32) (σf : Sg) (rf : Unit) (h : m_X4_settleImport σ x1 x2 = some σf) : CV l yX4_settleImport (wy yX4_settleImport cX4_settleImport 5 none) { frames := 2, cells := 0, slots := 0, locals := 40 } Γ σ [.ref (adr Γ 4), .int x1, .int x2] σf rf := by
  refine met_of (by decide +kernel) hJ (Nat.le_of_ble_eq_true rfl) (fun p e s m below meth c ls X hH hl => ?_)
  have hl : lv_has ls 5 [(0, .ref (adr Γ 4)), (1, .int x1), (2, .int x2)] := hl
  have hx := X.1.1
  have hb := X.1.2.1
  rw [m_X4_settleImport] at h
  refine lv_iload_n hx hb dX4_settleImport_0 rfl (lv_at hl 2 rfl) ?_
  obtain ⟨r102, hq101, h⟩ := bnd_some h
  refine r_callSI X.1 hl hH (As := [.int x2]) (rest := []) (c_X2_isAgain l X.1.2.2.2.2.2.2.1 σ x2 _ hq101) (cw_S X.1 1 mw_167 mw_164 mw_165 mw_166 rfl rfl (by decide +kernel) ⟨Nat.le_of_ble_eq_true rfl, Nat.le_of_ble_eq_true rfl⟩) rfl rfl (Nat.le_of_ble_eq_true rfl) dX4_settleImport_1 ⟨Nat.zero_le _, Nat.zero_le _⟩ (fun H locs hH => ?_)
  refine lv_istore_n (lv' := [(3, .int r102), (0, .ref (adr Γ 4)), (1, .int x1), (2, .int x2)]) hx hb dX4_settleImport_4 rfl hl (by decide) rfl (fun ls hl => ?_)
  refine lv_iload_n hx hb dX4_settleImport_5 rfl (lv_at hl 3 rfl) ?_
  obtain ⟨r105, hq104, h⟩ := bnd_some h
  refine r_callSI X.1 hl hH (As := [.int x2]) (rest := []) (c_X2_isOfAll l X.1.2.2.2.2.2.2.1 σ x2 _ hq104) (cw_S X.1 1 mw_170 mw_168 mw_169 mw_166 rfl rfl (by decide +kernel) ⟨Nat.le_of_ble_eq_true rfl, Nat.le_of_ble_eq_true rfl⟩) rfl rfl (Nat.le_of_ble_eq_true rfl) dX4_settleImport_6 ⟨Nat.zero_le _, Nat.zero_le _⟩ (fun H locs hH => ?_)
  refine lv_if_eq (tgt := 51) hx hb dX4_settleImport_9 (by decide) (fun hc => ?_) (fun hc => ?_)
  · replace h := if_t h hc
    refine lv_iload_n hx hb dX4_settleImport_51 rfl (lv_at hl 2 rfl) ?_
    refine lv_bipush (v := 16) hx hb dX4_settleImport_52 (by decide) ?_
    refine lv_imul hx hb dX4_settleImport_54 ?_
    refine lv_iload_n hx hb dX4_settleImport_55 rfl (lv_at hl 3 rfl) ?_
    obtain ⟨r108, hq107, h⟩ := bnd_some h
    refine r_callSI X.1 hl hH (As := [.int x2]) (rest := [.int (x1 * (16 : Int32))]) (c_X2_under l X.1.2.2.2.2.2.2.1 σ x2 _ hq107) (cw_S X.1 1 mw_176 mw_174 mw_175 mw_166 rfl rfl (by decide +kernel) ⟨Nat.le_of_ble_eq_true rfl, Nat.le_of_ble_eq_true rfl⟩) rfl rfl (Nat.le_of_ble_eq_true rfl) dX4_settleImport_56 ⟨Nat.zero_le _, Nat.zero_le _⟩ (fun H locs hH => ?_)
    refine lv_iadd hx hb dX4_settleImport_59 ?_
    refine lv_istore (lv' := [(4, .int ((x1 * (16 : Int32)) + r108)), (3, .int r102), (0, .ref (adr Γ 4)), (1, .int x1), (2, .int x2)]) hx hb dX4_settleImport_60 hl (by decide) rfl (fun ls hl => ?_)
    refine lv_aload_n hx hb dX4_settleImport_62 rfl (lv_at hl 2 rfl) ?_
    refine r_get X.1 hH (by decide) rfl rfl inlX4 4 (by decide) (v := .ref (adr Γ 8)) rfl mw_43 dX4_settleImport_63 ?_
    refine lv_iload hx hb dX4_settleImport_66 (lv_at hl 0 rfl) ?_
    refine lv_iload_n hx hb dX4_settleImport_68 rfl (lv_at hl 4 rfl) ?_
    obtain ⟨r111, hq110, h⟩ := bnd_some h
    refine r_callSI X.1 hl hH (As := [.int x2]) (rest := [.int ((x1 * (16 : Int32)) + r108), .ref (adr Γ 8)]) (c_X2_source l X.1.2.2.2.2.2.2.1 σ x2 _ hq110) (cw_S X.1 1 mw_179 mw_177 mw_178 mw_166 rfl rfl (by decide +kernel) ⟨Nat.le_of_ble_eq_true rfl, Nat.le_of_ble_eq_true rfl⟩) rfl rfl (Nat.le_of_ble_eq_true rfl) dX4_settleImport_69 ⟨Nat.zero_le _, Nat.zero_le _⟩ (fun H locs hH => ?_)
    obtain ⟨hg113, h⟩ := chk_some h
    obtain ⟨σ114, e115, h⟩ := st_some h
    refine r_ist X.1 hH (by decide) rfl hg113 dX4_settleImport_72 (fun H locs hH => ?_)
    replace hH : HW (IA Γ) Γ σ114 s.heap H locs := by rw [e115]; exact hH
    refine lv_iload_n hx hb dX4_settleImport_73 rfl (lv_at hl 1 rfl) ?_
    refine lv_if_eq (tgt := 91) hx hb dX4_settleImport_74 (by decide) (fun hc => ?_) (fun hc => ?_)
    · replace h := if_t h hc
      cases h
      exact e_void (v := rf) X hH dX4_settleImport_91
    · replace h := if_f h hc
      refine lv_aload_n hx hb dX4_settleImport_77 rfl (lv_at hl 2 rfl) ?_
      refine r_get X.1 hH (by decide) rfl rfl inlX4 5 (by decide) (v := .ref (adr Γ 9)) rfl mw_44 dX4_settleImport_78 ?_
      refine lv_iload hx hb dX4_settleImport_81 (lv_at hl 0 rfl) ?_
      refine lv_aload_n hx hb dX4_settleImport_83 rfl (lv_at hl 2 rfl) ?_
      refine r_get X.1 hH (by decide) rfl rfl inlX4 4 (by decide) (v := .ref (adr Γ 8)) rfl mw_43 dX4_settleImport_84 ?_
      refine lv_iload hx hb dX4_settleImport_87 (lv_at hl 0 rfl) ?_
      obtain ⟨hg116, h⟩ := chk_some h
      refine r_ild X.1 hH (by decide) rfl hg116 dX4_settleImport_89 ?_
      obtain ⟨hg117, h⟩ := chk_some h
      obtain ⟨σ118, e119, h⟩ := st_some h
      refine r_ist X.1 hH (by decide) rfl hg117 dX4_settleImport_90 (fun H locs hH => ?_)
      replace hH : HW (IA Γ) Γ σ118 s.heap H locs := by rw [e119]; exact hH
      cases h
      exact e_void (v := rf) X hH dX4_settleImport_91
  · replace h := if_f h hc
    refine lv_aload_n hx hb dX4_settleImport_12 rfl (lv_at hl 1 rfl) ?_
    refine r_get X.1 hH (by decide) rfl rfl inlX4 6 (by decide) (v := .ref (adr Γ 10)) rfl mw_45 dX4_settleImport_13 ?_
    refine lv_iload_n hx hb dX4_settleImport_16 rfl (lv_at hl 2 rfl) ?_
    refine lv_dup2_11 hx hb dX4_settleImport_17 rfl rfl ?_
    obtain ⟨hg120, h⟩ := chk_some h
    refine r_ild X.1 hH (by decide) rfl hg120 dX4_settleImport_18 ?_
    refine lv_iconst (v := 1) hx hb dX4_settleImport_19 (by decide) ?_
    refine lv_iload_n hx hb dX4_settleImport_20 rfl (lv_at hl 3 rfl) ?_
    obtain ⟨r122, hq121, h⟩ := bnd_some h
    refine r_callSI X.1 hl hH (As := [.int x2]) (rest := [.int 1, .int (σ.1 11 0 x1.toNatClampNeg), .int x1, .ref (adr Γ 10)]) (c_X2_from l X.1.2.2.2.2.2.2.1 σ x2 _ hq121) (cw_S X.1 1 mw_173 mw_171 mw_172 mw_166 rfl rfl (by decide +kernel) ⟨Nat.le_of_ble_eq_true rfl, Nat.le_of_ble_eq_true rfl⟩) rfl rfl (Nat.le_of_ble_eq_true rfl) dX4_settleImport_21 ⟨Nat.zero_le _, Nat.zero_le _⟩ (fun H locs hH => ?_)
    refine lv_ishl hx hb dX4_settleImport_24 ?_
    refine lv_ior hx hb dX4_settleImport_25 ?_
    obtain ⟨hg124, h⟩ := chk_some h
    obtain ⟨σ125, e126, h⟩ := st_some h
    refine r_ist X.1 hH (by decide) rfl hg124 dX4_settleImport_26 (fun H locs hH => ?_)
    replace hH : HW (IA Γ) Γ σ125 s.heap H locs := by rw [e126]; exact hH
    refine lv_aload_n hx hb dX4_settleImport_27 rfl (lv_at hl 1 rfl) ?_
    refine r_get X.1 hH (by decide) rfl rfl inlX4 7 (by decide) (v := .ref (adr Γ 11)) rfl mw_46 dX4_settleImport_28 ?_
    refine lv_iload_n hx hb dX4_settleImport_31 rfl (lv_at hl 2 rfl) ?_
    refine lv_dup2_11 hx hb dX4_settleImport_32 rfl rfl ?_
    obtain ⟨hg127, h⟩ := chk_some h
    refine r_ild X.1 hH (by decide) rfl hg127 dX4_settleImport_33 ?_
    refine lv_iload_n hx hb dX4_settleImport_34 rfl (lv_at hl 0 rfl) ?_
    refine lv_if_eq (tgt := 47) hx hb dX4_settleImport_35 (by decide) (fun hc => ?_) (fun hc => ?_)
    · replace h := if_t h hc
      refine lv_iconst (v := 0) hx hb dX4_settleImport_47 (by decide) ?_
      refine lv_ior hx hb dX4_settleImport_48 ?_
      obtain ⟨hg128, h⟩ := chk_some h
      obtain ⟨σ129, e130, h⟩ := st_some h
      refine r_ist X.1 hH (by decide) rfl hg128 dX4_settleImport_49 (fun H locs hH => ?_)
      replace hH : HW (IA Γ) Γ σ129 s.heap H locs := by rw [e130]; exact hH
      cases h
      exact e_void (v := rf) X hH dX4_settleImport_50
    · replace h := if_f h hc
      refine lv_iconst (v := 1) hx hb dX4_settleImport_38 (by decide) ?_
      refine lv_iload_n hx hb dX4_settleImport_39 rfl (lv_at hl 3 rfl) ?_
      obtain ⟨r132, hq131, h⟩ := bnd_some h
      refine r_callSI X.1 hl hH (As := [.int x2]) (rest := [.int 1, .int (σ125.1 12 0 x1.toNatClampNeg), .int x1, .ref (adr Γ 11)]) (c_X2_from l X.1.2.2.2.2.2.2.1 σ125 x2 _ hq131) (cw_S X.1 1 mw_173 mw_171 mw_172 mw_166 rfl rfl (by decide +kernel) ⟨Nat.le_of_ble_eq_true rfl, Nat.le_of_ble_eq_true rfl⟩) rfl rfl (Nat.le_of_ble_eq_true rfl) dX4_settleImport_40 ⟨Nat.zero_le _, Nat.zero_le _⟩ (fun H locs hH => ?_)
      refine lv_ishl hx hb dX4_settleImport_43 ?_
      refine lv_goto (tgt := 48) hx hb dX4_settleImport_44 (by decide) ?_
      refine lv_ior hx hb dX4_settleImport_48 ?_
      obtain ⟨hg134, h⟩ := chk_some h
      obtain ⟨σ135, e136, h⟩ := st_some h
      refine r_ist X.1 hH (by decide) rfl hg134 dX4_settleImport_49 (fun H locs hH => ?_)
      replace hH : HW (IA Γ) Γ σ135 s.heap H locs := by rw [e136]; exact hH
      cases h
      exact e_void (v := rf) X hH dX4_settleImport_50
def m_X4_settleImports_57  (k34 : Sg → Int32 → Option Sg) : Nat → Sg → Int32 → Int32 → Option Sg
  | 0, _, _, _ => none
  | n + 1, σ, x1, x2 => if x2 < 0 then k34 σ (x1 + 1) else bnd (m_X8_importAt σ 0 x1 x2) (fun r115 => bnd (m_X4_settleImport σ x1 r115) (fun σ119 => m_X4_settleImports_57  k34 n σ119 x1 (x2 + (-1))))
set_option maxHeartbeats 4000000 in
set_option maxRecDepth 100000 in
theorem b_X4_settleImports_57 {p : Program} {l : Launch} {e : Env} {s : State} {m : MethodId} {args : Array Value} {below : List Frame} {meth : Method} {c : Code} {Γ : GG} (X : MB Γ p s m args meth c cX4_settleImports 3 RX4 none) {σf : Sg} {rf : Unit}  (k34 : Sg → Int32 → Option Sg) (hk34 : (∀ (σ : Sg) (x1 : Int32), k34 σ x1 = some σf → ∀ (H : Heap) (locs : List Loc) (ls : Array Slot), HW (IA Γ) Γ σ s.heap H locs → lv_has ls 3 [(0, .ref (adr Γ 4)), (1, .int x1)] → W p l e ({ frames := 3, cells := 0, slots := 0, locals := 64 } : Room) s m args below meth c H locs 0 0 (QV Γ σf rf below args s) (F0 m 34 ls []))) : ∀ (n : Nat), (∀ (σ : Sg) (x1 : Int32) (x2 : Int32), (m_X4_settleImports_57  k34 n) σ x1 x2 = some σf → ∀ (H : Heap) (locs : List Loc) (ls : Array Slot), HW (IA Γ) Γ σ s.heap H locs → lv_has ls 3 [(0, .ref (adr Γ 4)), (1, .int x1), (2, .int x2)] → W p l e ({ frames := 3, cells := 0, slots := 0, locals := 64 } : Room) s m args below meth c H locs 0 0 (QV Γ σf rf below args s) (F0 m 57 ls [])) := by
  have hx := X.1.1
  have hb := X.1.2.1
  intro n
  induction n with
  | zero => intro σ x1 x2 h; rw [m_X4_settleImports_57] at h; cases h
  | succ n ih =>
    intro σ x1 x2 h H locs ls hH hl
    rw [m_X4_settleImports_57] at h
    refine lv_iload_n hx hb dX4_settleImports_57 rfl (lv_at hl 2 rfl) ?_
    refine lv_if_lt (tgt := 81) hx hb dX4_settleImports_58 (by decide) (fun hc => ?_) (fun hc => ?_)
    · replace h := if_t h hc
      refine lv_iinc (v := x1 + 1) (lv' := [(1, .int (x1 + 1)), (0, .ref (adr Γ 4)), (2, .int x2)]) hx hb dX4_settleImports_81 hl (k := 1) rfl rfl (by decide) rfl (fun ls hl => ?_)
      refine lv_goto (tgt := 34) hx hb dX4_settleImports_84 (by decide) ?_
      exact hk34 σ (x1 + 1) h _ _ _ hH (lv_sub hl [1, 0] rfl)
    · replace h := if_f h hc
      refine lv_aload_n hx hb dX4_settleImports_61 rfl (lv_at hl 0 rfl) ?_
      refine lv_iload_n hx hb dX4_settleImports_62 rfl (lv_at hl 1 rfl) ?_
      refine lv_aload_n hx hb dX4_settleImports_63 rfl (lv_at hl 0 rfl) ?_
      refine r_get X.1 hH (by decide) rfl rfl inlX4 0 (by decide) (v := .ref (adr Γ (kT 0))) rfl mw_47 dX4_settleImports_64 ?_
      refine lv_iload_n hx hb dX4_settleImports_67 rfl (lv_at hl 1 rfl) ?_
      refine lv_iload_n hx hb dX4_settleImports_68 rfl (lv_at hl 2 rfl) ?_
      obtain ⟨r115, hq114, h⟩ := bnd_some h
      refine r_callVI X.1 hl hH (As := [.int x1, .int x2]) (rest := [.int x1, .ref (adr Γ 4)]) (c_X8_importAt l X.1.2.2.2.2.2.2.1 σ 0 (by omega) x1 x2 _ hq114) (cw_V X.1 2 mw_159 mw_156 mw_157 mw_158 mw_12 rfl rfl (by decide +kernel) ⟨Nat.le_of_ble_eq_true rfl, Nat.le_of_ble_eq_true rfl⟩) (r_recv X.1 hH (kT_lt (by omega)) (dT0 _ (by omega)) rfl) rfl rfl (Nat.le_of_ble_eq_true rfl) dX4_settleImports_69 ⟨Nat.zero_le _, Nat.zero_le _⟩ (fun H locs hH => ?_)
      obtain ⟨σ119, hq117, h⟩ := bnd_some h
      refine r_callVV X.1 hl hH (r := ()) (As := [.int x1, .int r115]) (rest := []) (c_X4_settleImport l X.1.2.2.2.2.2.2.1 σ x1 r115 _ () hq117) (cw_V X.1 2 mw_163 mw_160 mw_161 mw_162 mw_16 rfl rfl (by decide +kernel) ⟨Nat.le_of_ble_eq_true rfl, Nat.le_of_ble_eq_true rfl⟩) (r_recv X.1 hH (by decide) rfl rfl) rfl rfl (Nat.le_of_ble_eq_true rfl) dX4_settleImports_72 ⟨Nat.zero_le _, Nat.zero_le _⟩ (fun H locs hH => ?_)
      refine lv_iinc (v := x2 + (-1)) (lv' := [(2, .int (x2 + (-1))), (0, .ref (adr Γ 4)), (1, .int x1)]) hx hb dX4_settleImports_75 hl (k := 2) rfl rfl (by decide) rfl (fun ls hl => ?_)
      refine lv_goto (tgt := 57) hx hb dX4_settleImports_78 (by decide) ?_
      exact ih σ119 x1 (x2 + (-1)) h _ _ _ hH (lv_sub hl [1, 2, 0] rfl)
def m_X4_settleImports_34   : Nat → Sg → Int32 → Option Sg
  | 0, _, _ => none
  | n + 1, σ, x1 => if (σ.1 29 0 0) ≤ x1 then some σ else chk (inb x1 8) (m_X4_settleImports_57  (m_X4_settleImports_34  n) 1000 σ x1 ((σ.1 28 0 x1.toNatClampNeg) - (1 : Int32)))
set_option maxHeartbeats 4000000 in
set_option maxRecDepth 100000 in
theorem b_X4_settleImports_34 {p : Program} {l : Launch} {e : Env} {s : State} {m : MethodId} {args : Array Value} {below : List Frame} {meth : Method} {c : Code} {Γ : GG} (X : MB Γ p s m args meth c cX4_settleImports 3 RX4 none) {σf : Sg} {rf : Unit}  : ∀ (n : Nat), (∀ (σ : Sg) (x1 : Int32), (m_X4_settleImports_34  n) σ x1 = some σf → ∀ (H : Heap) (locs : List Loc) (ls : Array Slot), HW (IA Γ) Γ σ s.heap H locs → lv_has ls 3 [(0, .ref (adr Γ 4)), (1, .int x1)] → W p l e ({ frames := 3, cells := 0, slots := 0, locals := 64 } : Room) s m args below meth c H locs 0 0 (QV Γ σf rf below args s) (F0 m 34 ls [])) := by
  have hx := X.1.1
  have hb := X.1.2.1
  intro n
  induction n with
  | zero => intro σ x1 h; rw [m_X4_settleImports_34] at h; cases h
  | succ n ih =>
    intro σ x1 h H locs ls hH hl
    rw [m_X4_settleImports_34] at h
    refine lv_iload_n hx hb dX4_settleImports_34 rfl (lv_at hl 1 rfl) ?_
    refine lv_aload_n hx hb dX4_settleImports_35 rfl (lv_at hl 0 rfl) ?_
    refine r_get X.1 hH (by decide) rfl rfl inlX4 0 (by decide) (v := .ref (adr Γ (kT 0))) rfl mw_47 dX4_settleImports_36 ?_
    refine r_get X.1 hH (kT_lt (by omega)) (dT0 _ (by omega)) rfl inlX8 3 (by decide) (v := .int (σ.1 29 0 0)) rfl mw_146 dX4_settleImports_39 ?_
    refine lv_icmp_ge (tgt := 87) hx hb dX4_settleImports_42 (by decide) (fun hc => ?_) (fun hc => ?_)
    · replace h := if_t h hc
      cases h
      exact e_void (v := rf) X hH dX4_settleImports_87
    · replace h := if_f h hc
      refine lv_aload_n hx hb dX4_settleImports_45 rfl (lv_at hl 0 rfl) ?_
      refine r_get X.1 hH (by decide) rfl rfl inlX4 0 (by decide) (v := .ref (adr Γ (kT 0))) rfl mw_47 dX4_settleImports_46 ?_
      refine r_get X.1 hH (kT_lt (by omega)) (dT0 _ (by omega)) rfl inlX8 2 (by decide) (v := .ref (adr Γ (kT 0 + 3))) rfl mw_151 dX4_settleImports_49 ?_
      refine lv_iload_n hx hb dX4_settleImports_52 rfl (lv_at hl 1 rfl) ?_
      obtain ⟨hg113, h⟩ := chk_some h
      refine r_ild X.1 hH (lT3 _ (by omega)) (dT3 _ (by omega)) hg113 dX4_settleImports_53 ?_
      refine lv_iconst (v := 1) hx hb dX4_settleImports_54 (by decide) ?_
      refine lv_isub hx hb dX4_settleImports_55 ?_
      refine lv_istore_n (lv' := [(2, .int ((σ.1 28 0 x1.toNatClampNeg) - (1 : Int32))), (0, .ref (adr Γ 4)), (1, .int x1)]) hx hb dX4_settleImports_56 rfl hl (by decide) rfl (fun ls hl => ?_)
      exact b_X4_settleImports_57 (rf := ()) X  (m_X4_settleImports_34  n) ih 1000 σ x1 ((σ.1 28 0 x1.toNatClampNeg) - (1 : Int32)) h _ _ _ hH (lv_sub hl [1, 2, 0] rfl)
/-- CutoffMill$Names.settleImports()V -/
def m_X4_settleImports (σ : Sg)  : Option Sg := bnd (m_J7_fill_53178 σ 9 0 128 ((-1))) (fun σ103 => bnd (m_J7_fill_53178 σ103 10 0 128 ((-1))) (fun σ106 => bnd (m_J7_fill_53178 σ106 11 0 8 0) (fun σ109 => bnd (m_J7_fill_53178 σ109 12 0 8 0) (fun σ112 => m_X4_settleImports_34  1000 σ112 0))))
set_option maxHeartbeats 4000000 in
set_option maxRecDepth 100000 in
theorem c_X4_settleImports (l : Launch) {Γ : GG} (hJ : IJ Γ) (σ : Sg)  (σf : Sg) (rf : Unit) (h : m_X4_settleImports σ  = some σf) : CV l yX4_settleImports (wy yX4_settleImports cX4_settleImports 3 none) { frames := 3, cells := 0, slots := 0, locals := 64 } Γ σ [.ref (adr Γ 4)] σf rf := by
  refine met_of (by decide +kernel) hJ (Nat.le_of_ble_eq_true rfl) (fun p e s m below meth c ls X hH hl => ?_)
  have hl : lv_has ls 3 [(0, .ref (adr Γ 4))] := hl
  have hx := X.1.1
  have hb := X.1.2.1
  rw [m_X4_settleImports] at h
  refine lv_aload_n hx hb dX4_settleImports_0 rfl (lv_at hl 0 rfl) ?_
  refine r_get X.1 hH (by decide) rfl rfl inlX4 4 (by decide) (v := .ref (adr Γ 8)) rfl mw_43 dX4_settleImports_1 ?_
  refine lv_iconst (v := (-1)) hx hb dX4_settleImports_4 (by decide) ?_
  obtain ⟨σ103, hq101, h⟩ := bnd_some h
  refine r_callSV X.1 hl hH (r := ()) (As := [.ref (adr Γ 8), .int ((-1))]) (rest := []) (c_J7_fill_53178 l X.1.2.2.2.2.2.2.1 σ 9 0 128 8 (by decide) rfl ((-1)) _ () hq101) (cw_S X.1 2 mw_155 mw_152 mw_153 mw_154 rfl rfl (by decide +kernel) ⟨Nat.le_of_ble_eq_true rfl, Nat.le_of_ble_eq_true rfl⟩) rfl rfl (Nat.le_of_ble_eq_true rfl) dX4_settleImports_5 ⟨Nat.zero_le _, Nat.zero_le _⟩ (fun H locs hH => ?_)
  refine lv_aload_n hx hb dX4_settleImports_8 rfl (lv_at hl 0 rfl) ?_
  refine r_get X.1 hH (by decide) rfl rfl inlX4 5 (by decide) (v := .ref (adr Γ 9)) rfl mw_44 dX4_settleImports_9 ?_
  refine lv_iconst (v := (-1)) hx hb dX4_settleImports_12 (by decide) ?_
  obtain ⟨σ106, hq104, h⟩ := bnd_some h
  refine r_callSV X.1 hl hH (r := ()) (As := [.ref (adr Γ 9), .int ((-1))]) (rest := []) (c_J7_fill_53178 l X.1.2.2.2.2.2.2.1 σ103 10 0 128 9 (by decide) rfl ((-1)) _ () hq104) (cw_S X.1 2 mw_155 mw_152 mw_153 mw_154 rfl rfl (by decide +kernel) ⟨Nat.le_of_ble_eq_true rfl, Nat.le_of_ble_eq_true rfl⟩) rfl rfl (Nat.le_of_ble_eq_true rfl) dX4_settleImports_13 ⟨Nat.zero_le _, Nat.zero_le _⟩ (fun H locs hH => ?_)
  refine lv_aload_n hx hb dX4_settleImports_16 rfl (lv_at hl 0 rfl) ?_
  refine r_get X.1 hH (by decide) rfl rfl inlX4 6 (by decide) (v := .ref (adr Γ 10)) rfl mw_45 dX4_settleImports_17 ?_
  refine lv_iconst (v := 0) hx hb dX4_settleImports_20 (by decide) ?_
  obtain ⟨σ109, hq107, h⟩ := bnd_some h
  refine r_callSV X.1 hl hH (r := ()) (As := [.ref (adr Γ 10), .int 0]) (rest := []) (c_J7_fill_53178 l X.1.2.2.2.2.2.2.1 σ106 11 0 8 10 (by decide) rfl 0 _ () hq107) (cw_S X.1 2 mw_155 mw_152 mw_153 mw_154 rfl rfl (by decide +kernel) ⟨Nat.le_of_ble_eq_true rfl, Nat.le_of_ble_eq_true rfl⟩) rfl rfl (Nat.le_of_ble_eq_true rfl) dX4_settleImports_21 ⟨Nat.zero_le _, Nat.zero_le _⟩ (fun H locs hH => ?_)
  refine lv_aload_n hx hb dX4_settleImports_24 rfl (lv_at hl 0 rfl) ?_
  refine r_get X.1 hH (by decide) rfl rfl inlX4 7 (by decide) (v := .ref (adr Γ 11)) rfl mw_46 dX4_settleImports_25 ?_
  refine lv_iconst (v := 0) hx hb dX4_settleImports_28 (by decide) ?_
  obtain ⟨σ112, hq110, h⟩ := bnd_some h
  refine r_callSV X.1 hl hH (r := ()) (As := [.ref (adr Γ 11), .int 0]) (rest := []) (c_J7_fill_53178 l X.1.2.2.2.2.2.2.1 σ109 12 0 8 11 (by decide) rfl 0 _ () hq110) (cw_S X.1 2 mw_155 mw_152 mw_153 mw_154 rfl rfl (by decide +kernel) ⟨Nat.le_of_ble_eq_true rfl, Nat.le_of_ble_eq_true rfl⟩) rfl rfl (Nat.le_of_ble_eq_true rfl) dX4_settleImports_29 ⟨Nat.zero_le _, Nat.zero_le _⟩ (fun H locs hH => ?_)
  refine lv_iconst (v := 0) hx hb dX4_settleImports_32 (by decide) ?_
  refine lv_istore_n (lv' := [(1, .int 0), (0, .ref (adr Γ 4))]) hx hb dX4_settleImports_33 rfl hl (by decide) rfl (fun ls hl => ?_)
  exact b_X4_settleImports_34 (rf := ()) X   1000 σ112 0 h _ _ _ hH (lv_sub hl [1, 0] rfl)
/-- CutoffMill$Texts.isDeclared(I)Z -/
def m_X8_isDeclared (σ : Sg) (i0 : Nat) (x1 : Int32) : Option Int32 := chk (inb x1 128) (if (σ.1 26 i0 x1.toNatClampNeg) = 0 then some 0 else some 1)
set_option maxHeartbeats 4000000 in
set_option maxRecDepth 100000 in
theorem c_X8_isDeclared (l : Launch) {Γ : GG} (hJ : IJ Γ) (σ : Sg) (i0 : Nat) (hi0 : i0 < 32) (x1 : Int32) (rf : Int32) (h : m_X8_isDeclared σ i0 x1 = some rf) : CI l yX8_isDeclared (wy yX8_isDeclared cX8_isDeclared 2 (some .boolean)) { frames := 0, cells := 0, slots := 0, locals := 0 } Γ σ [.ref (adr Γ (kT i0)), .int x1] σ rf := by
  refine met_of (by decide +kernel) hJ (Nat.le_of_ble_eq_true rfl) (fun p e s m below meth c ls X hH hl => ?_)
  have hl : lv_has ls 2 [(0, .ref (adr Γ (kT i0))), (1, .int x1)] := hl
  have hx := X.1.1
  have hb := X.1.2.1
  rw [m_X8_isDeclared] at h
  refine lv_aload_n hx hb dX8_isDeclared_0 rfl (lv_at hl 0 rfl) ?_
  refine r_get X.1 hH (kT_lt (by omega)) (dT0 _ (by omega)) rfl inlX8 0 (by decide) (v := .ref (adr Γ (kT i0 + 1))) rfl mw_33 dX8_isDeclared_1 ?_
  refine lv_iload_n hx hb dX8_isDeclared_4 rfl (lv_at hl 1 rfl) ?_
  obtain ⟨hg101, h⟩ := chk_some h
  refine r_ild X.1 hH (lT1 _ (by omega)) (dT1 _ (by omega)) hg101 dX8_isDeclared_5 ?_
  refine lv_if_eq (tgt := 13) hx hb dX8_isDeclared_6 (by decide) (fun hc => ?_) (fun hc => ?_)
  · replace h := if_t h hc
    refine lv_iconst (v := 0) hx hb dX8_isDeclared_13 (by decide) ?_
    cases h
    exact e_int X hH rfl dX8_isDeclared_14
  · replace h := if_f h hc
    refine lv_iconst (v := 1) hx hb dX8_isDeclared_9 (by decide) ?_
    refine lv_goto (tgt := 14) hx hb dX8_isDeclared_10 (by decide) ?_
    cases h
    exact e_int X hH rfl dX8_isDeclared_14
/-- CutoffMill$Declaration.isPublic(I)Z -/
def m_X1_isPublic (σ : Sg) (x0 : Int32) : Option Int32 := if ((x0 >>> ((2 : Int32) &&& 31)) &&& (1 : Int32)) = 1 then some 1 else some 0
set_option maxHeartbeats 4000000 in
set_option maxRecDepth 100000 in
theorem c_X1_isPublic (l : Launch) {Γ : GG} (hJ : IJ Γ) (σ : Sg) (x0 : Int32) (rf : Int32) (h : m_X1_isPublic σ x0 = some rf) : CI l yX1_isPublic (wy yX1_isPublic cX1_isPublic 1 (some .boolean)) { frames := 0, cells := 0, slots := 0, locals := 0 } Γ σ [.int x0] σ rf := by
  refine met_of (by decide +kernel) hJ (Nat.le_of_ble_eq_true rfl) (fun p e s m below meth c ls X hH hl => ?_)
  have hl : lv_has ls 1 [(0, .int x0)] := hl
  have hx := X.1.1
  have hb := X.1.2.1
  rw [m_X1_isPublic] at h
  refine lv_iload_n hx hb dX1_isPublic_0 rfl (lv_at hl 0 rfl) ?_
  refine lv_iconst (v := 2) hx hb dX1_isPublic_1 (by decide) ?_
  refine lv_ishr hx hb dX1_isPublic_2 ?_
  refine lv_iconst (v := 1) hx hb dX1_isPublic_3 (by decide) ?_
  refine lv_iand hx hb dX1_isPublic_4 ?_
  refine lv_iconst (v := 1) hx hb dX1_isPublic_5 (by decide) ?_
  refine lv_icmp_ne (tgt := 13) hx hb dX1_isPublic_6 (by decide) (fun hc => ?_) (fun hc => ?_)
  · replace h := if_f h hc
    refine lv_iconst (v := 0) hx hb dX1_isPublic_13 (by decide) ?_
    cases h
    exact e_int X hH rfl dX1_isPublic_14
  · replace h := if_t h hc
    refine lv_iconst (v := 1) hx hb dX1_isPublic_9 (by decide) ?_
    refine lv_goto (tgt := 14) hx hb dX1_isPublic_10 (by decide) ?_
    cases h
    exact e_int X hH rfl dX1_isPublic_14
/-- CutoffMill$Rings.has(II)Z -/
def m_X6_has (σ : Sg) (x0 : Int32) (x1 : Int32) : Option Int32 := if ((x0 >>> (x1 &&& 31)) &&& (1 : Int32)) = 1 then some 1 else some 0
set_option maxHeartbeats 4000000 in
set_option maxRecDepth 100000 in
theorem c_X6_has (l : Launch) {Γ : GG} (hJ : IJ Γ) (σ : Sg) (x0 : Int32) (x1 : Int32) (rf : Int32) (h : m_X6_has σ x0 x1 = some rf) : CI l yX6_has (wy yX6_has cX6_has 2 (some .boolean)) { frames := 0, cells := 0, slots := 0, locals := 0 } Γ σ [.int x0, .int x1] σ rf := by
  refine met_of (by decide +kernel) hJ (Nat.le_of_ble_eq_true rfl) (fun p e s m below meth c ls X hH hl => ?_)
  have hl : lv_has ls 2 [(0, .int x0), (1, .int x1)] := hl
  have hx := X.1.1
  have hb := X.1.2.1
  rw [m_X6_has] at h
  refine lv_iload_n hx hb dX6_has_0 rfl (lv_at hl 0 rfl) ?_
  refine lv_iload_n hx hb dX6_has_1 rfl (lv_at hl 1 rfl) ?_
  refine lv_ishr hx hb dX6_has_2 ?_
  refine lv_iconst (v := 1) hx hb dX6_has_3 (by decide) ?_
  refine lv_iand hx hb dX6_has_4 ?_
  refine lv_iconst (v := 1) hx hb dX6_has_5 (by decide) ?_
  refine lv_icmp_ne (tgt := 13) hx hb dX6_has_6 (by decide) (fun hc => ?_) (fun hc => ?_)
  · replace h := if_f h hc
    refine lv_iconst (v := 0) hx hb dX6_has_13 (by decide) ?_
    cases h
    exact e_int X hH rfl dX6_has_14
  · replace h := if_t h hc
    refine lv_iconst (v := 1) hx hb dX6_has_9 (by decide) ?_
    refine lv_goto (tgt := 14) hx hb dX6_has_10 (by decide) ?_
    cases h
    exact e_int X hH rfl dX6_has_14
/-- CutoffMill$Names.joined(II)I -/
def m_X4_joined (σ : Sg) (x0 : Int32) (x1 : Int32) : Option Int32 := if x0 = ((-1)) then some x1 else if x1 = ((-1)) then some x0 else if x1 = x0 then some x0 else some ((-2))
set_option maxHeartbeats 4000000 in
set_option maxRecDepth 100000 in
theorem c_X4_joined (l : Launch) {Γ : GG} (hJ : IJ Γ) (σ : Sg) (x0 : Int32) (x1 : Int32) (rf : Int32) (h : m_X4_joined σ x0 x1 = some rf) : CI l yX4_joined (wy yX4_joined cX4_joined 2 (some .int)) { frames := 0, cells := 0, slots := 0, locals := 0 } Γ σ [.int x0, .int x1] σ rf := by
  refine met_of (by decide +kernel) hJ (Nat.le_of_ble_eq_true rfl) (fun p e s m below meth c ls X hH hl => ?_)
  have hl : lv_has ls 2 [(0, .int x0), (1, .int x1)] := hl
  have hx := X.1.1
  have hb := X.1.2.1
  rw [m_X4_joined] at h
  refine lv_iload_n hx hb dX4_joined_0 rfl (lv_at hl 0 rfl) ?_
  refine lv_iconst (v := (-1)) hx hb dX4_joined_1 (by decide) ?_
  refine lv_icmp_ne (tgt := 7) hx hb dX4_joined_2 (by decide) (fun hc => ?_) (fun hc => ?_)
  · replace h := if_f h hc
    refine lv_iload_n hx hb dX4_joined_7 rfl (lv_at hl 1 rfl) ?_
    refine lv_iconst (v := (-1)) hx hb dX4_joined_8 (by decide) ?_
    refine lv_icmp_eq (tgt := 17) hx hb dX4_joined_9 (by decide) (fun hc => ?_) (fun hc => ?_)
    · replace h := if_t h hc
      refine lv_iload_n hx hb dX4_joined_17 rfl (lv_at hl 0 rfl) ?_
      refine lv_goto (tgt := 23) hx hb dX4_joined_18 (by decide) ?_
      cases h
      exact e_int X hH rfl dX4_joined_23
    · replace h := if_f h hc
      refine lv_iload_n hx hb dX4_joined_12 rfl (lv_at hl 1 rfl) ?_
      refine lv_iload_n hx hb dX4_joined_13 rfl (lv_at hl 0 rfl) ?_
      refine lv_icmp_ne (tgt := 21) hx hb dX4_joined_14 (by decide) (fun hc => ?_) (fun hc => ?_)
      · replace h := if_f h hc
        refine lv_bipush (v := (-2)) hx hb dX4_joined_21 (by decide) ?_
        cases h
        exact e_int X hH rfl dX4_joined_23
      · replace h := if_t h hc
        refine lv_iload_n hx hb dX4_joined_17 rfl (lv_at hl 0 rfl) ?_
        refine lv_goto (tgt := 23) hx hb dX4_joined_18 (by decide) ?_
        cases h
        exact e_int X hH rfl dX4_joined_23
  · replace h := if_t h hc
    refine lv_iload_n hx hb dX4_joined_5 rfl (lv_at hl 1 rfl) ?_
    cases h
    exact e_int X hH rfl dX4_joined_6
def m_X4_broughtTo_18 (σ : Sg) (x1 : Int32) (x2 : Int32) (x3 : Int32)  : Nat → Int32 → Int32 → Option Int32
  | 0, _, _ => none
  | n + 1, x4, x5 => if 8 ≤ x5 then some x4 else if x3 = 0 then some x4 else bnd (m_X6_has σ x3 x5) (fun r102 => if r102 = 0 then m_X4_broughtTo_18 σ x1 x2 x3 n x4 (x5 + 1) else chk (inb ((x5 * (16 : Int32)) + (x1 - x1 / (16 : Int32) * (16 : Int32))) 128) (bnd (m_X4_joined σ x4 (σ.1 6 0 ((x5 * (16 : Int32)) + (x1 - x1 / (16 : Int32) * (16 : Int32))).toNatClampNeg)) (fun r106 => m_X4_broughtTo_18 σ x1 x2 x3 n r106 (x5 + 1))))
set_option maxHeartbeats 4000000 in
set_option maxRecDepth 100000 in
theorem b_X4_broughtTo_18 {p : Program} {l : Launch} {e : Env} {s : State} {m : MethodId} {args : Array Value} {below : List Frame} {meth : Method} {c : Code} {Γ : GG} (X : MB Γ p s m args meth c cX4_broughtTo 6 RX4 (some .int)) (σ : Sg) {rf : Int32} (x1 : Int32) (x2 : Int32) (x3 : Int32) : ∀ (n : Nat), (∀ (x4 : Int32) (x5 : Int32), (m_X4_broughtTo_18 σ x1 x2 x3 n) x4 x5 = some rf → ∀ (H : Heap) (locs : List Loc) (ls : Array Slot), HW (IA Γ) Γ σ s.heap H locs → lv_has ls 6 [(0, .ref (adr Γ 4)), (1, .int x1), (3, .int x3), (4, .int x4), (5, .int x5)] → W p l e ({ frames := 1, cells := 0, slots := 0, locals := 21 } : Room) s m args below meth c H locs 0 0 (QI Γ σ rf below args s) (F0 m 18 ls [])) := by
  have hx := X.1.1
  have hb := X.1.2.1
  intro n
  induction n with
  | zero => intro x4 x5 h; rw [m_X4_broughtTo_18] at h; cases h
  | succ n ih =>
    intro x4 x5 h H locs ls hH hl
    rw [m_X4_broughtTo_18] at h
    refine lv_iload hx hb dX4_broughtTo_18 (lv_at hl 4 rfl) ?_
    refine lv_bipush (v := 8) hx hb dX4_broughtTo_20 (by decide) ?_
    refine lv_icmp_ge (tgt := 66) hx hb dX4_broughtTo_22 (by decide) (fun hc => ?_) (fun hc => ?_)
    · replace h := if_t h hc
      refine lv_iload hx hb dX4_broughtTo_66 (lv_at hl 3 rfl) ?_
      cases h
      exact e_int X hH rfl dX4_broughtTo_68
    · replace h := if_f h hc
      refine lv_iload_n hx hb dX4_broughtTo_25 rfl (lv_at hl 2 rfl) ?_
      refine lv_if_eq (tgt := 66) hx hb dX4_broughtTo_26 (by decide) (fun hc => ?_) (fun hc => ?_)
      · replace h := if_t h hc
        refine lv_iload hx hb dX4_broughtTo_66 (lv_at hl 3 rfl) ?_
        cases h
        exact e_int X hH rfl dX4_broughtTo_68
      · replace h := if_f h hc
        refine lv_iload_n hx hb dX4_broughtTo_29 rfl (lv_at hl 2 rfl) ?_
        refine lv_iload hx hb dX4_broughtTo_30 (lv_at hl 4 rfl) ?_
        obtain ⟨r102, hq101, h⟩ := bnd_some h
        refine r_callSI X.1 hl hH (As := [.int x3, .int x5]) (rest := []) (c_X6_has l X.1.2.2.2.2.2.2.1 σ x3 x5 _ hq101) (cw_S X.1 2 mw_204 mw_202 mw_203 mw_20 rfl rfl (by decide +kernel) ⟨Nat.le_of_ble_eq_true rfl, Nat.le_of_ble_eq_true rfl⟩) rfl rfl (Nat.le_of_ble_eq_true rfl) dX4_broughtTo_32 ⟨Nat.zero_le _, Nat.zero_le _⟩ (fun H locs hH => ?_)
        refine lv_if_eq (tgt := 60) hx hb dX4_broughtTo_35 (by decide) (fun hc => ?_) (fun hc => ?_)
        · replace h := if_t h hc
          refine lv_iinc (v := x5 + 1) (lv' := [(5, .int (x5 + 1)), (0, .ref (adr Γ 4)), (1, .int x1), (3, .int x3), (4, .int x4)]) hx hb dX4_broughtTo_60 hl (k := 4) rfl rfl (by decide) rfl (fun ls hl => ?_)
          refine lv_goto (tgt := 18) hx hb dX4_broughtTo_63 (by decide) ?_
          exact ih  x4 (x5 + 1) h _ _ _ hH (lv_sub hl [1, 2, 3, 4, 0] rfl)
        · replace h := if_f h hc
          refine lv_iload hx hb dX4_broughtTo_38 (lv_at hl 3 rfl) ?_
          refine lv_aload_n hx hb dX4_broughtTo_40 rfl (lv_at hl 0 rfl) ?_
          refine r_get X.1 hH (by decide) rfl rfl inlX4 1 (by decide) (v := .ref (adr Γ 5)) rfl mw_40 dX4_broughtTo_41 ?_
          refine lv_iload hx hb dX4_broughtTo_44 (lv_at hl 4 rfl) ?_
          refine lv_bipush (v := 16) hx hb dX4_broughtTo_46 (by decide) ?_
          refine lv_imul hx hb dX4_broughtTo_48 ?_
          refine lv_iload_n hx hb dX4_broughtTo_49 rfl (lv_at hl 1 rfl) ?_
          refine lv_bipush (v := 16) hx hb dX4_broughtTo_50 (by decide) ?_
          refine lv_irem hx hb dX4_broughtTo_52 (by decide) ?_
          refine lv_iadd hx hb dX4_broughtTo_53 ?_
          obtain ⟨hg104, h⟩ := chk_some h
          refine r_ild X.1 hH (by decide) rfl hg104 dX4_broughtTo_54 ?_
          obtain ⟨r106, hq105, h⟩ := bnd_some h
          refine r_callSI X.1 hl hH (As := [.int x4, .int (σ.1 6 0 ((x5 * (16 : Int32)) + (x1 - x1 / (16 : Int32) * (16 : Int32))).toNatClampNeg)]) (rest := []) (c_X4_joined l X.1.2.2.2.2.2.2.1 σ x4 (σ.1 6 0 ((x5 * (16 : Int32)) + (x1 - x1 / (16 : Int32) * (16 : Int32))).toNatClampNeg) _ hq105) (cw_S X.1 2 mw_207 mw_205 mw_206 mw_16 rfl rfl (by decide +kernel) ⟨Nat.le_of_ble_eq_true rfl, Nat.le_of_ble_eq_true rfl⟩) rfl rfl (Nat.le_of_ble_eq_true rfl) dX4_broughtTo_55 ⟨Nat.zero_le _, Nat.zero_le _⟩ (fun H locs hH => ?_)
          refine lv_istore (lv' := [(4, .int r106), (0, .ref (adr Γ 4)), (1, .int x1), (3, .int x3), (5, .int x5)]) hx hb dX4_broughtTo_58 hl (by decide) rfl (fun ls hl => ?_)
          refine lv_iinc (v := x5 + 1) (lv' := [(5, .int (x5 + 1)), (4, .int r106), (0, .ref (adr Γ 4)), (1, .int x1), (3, .int x3)]) hx hb dX4_broughtTo_60 hl (k := 4) rfl rfl (by decide) rfl (fun ls hl => ?_)
          refine lv_goto (tgt := 18) hx hb dX4_broughtTo_63 (by decide) ?_
          exact ih  r106 (x5 + 1) h _ _ _ hH (lv_sub hl [2, 3, 4, 1, 0] rfl)
/-- CutoffMill$Names.broughtTo(III)I -/
def m_X4_broughtTo (σ : Sg) (x1 : Int32) (x2 : Int32) (x3 : Int32) : Option Int32 := if x2 = ((-1)) then m_X4_broughtTo_18 σ x1 x2 x3 1000 ((-1)) 0 else chk (inb x2 128) (some (σ.1 6 0 x2.toNatClampNeg))
set_option maxHeartbeats 4000000 in
set_option maxRecDepth 100000 in
theorem c_X4_broughtTo (l : Launch) {Γ : GG} (hJ : IJ Γ) (σ : Sg) (x1 : Int32) (x2 : Int32) (x3 : Int32) (rf : Int32) (h : m_X4_broughtTo σ x1 x2 x3 = some rf) : CI l yX4_broughtTo (wy yX4_broughtTo cX4_broughtTo 6 (some .int)) { frames := 1, cells := 0, slots := 0, locals := 21 } Γ σ [.ref (adr Γ 4), .int x1, .int x2, .int x3] σ rf := by
  refine met_of (by decide +kernel) hJ (Nat.le_of_ble_eq_true rfl) (fun p e s m below meth c ls X hH hl => ?_)
  have hl : lv_has ls 6 [(0, .ref (adr Γ 4)), (1, .int x1), (2, .int x2), (3, .int x3)] := hl
  have hx := X.1.1
  have hb := X.1.2.1
  rw [m_X4_broughtTo] at h
  refine lv_iload_n hx hb dX4_broughtTo_0 rfl (lv_at hl 2 rfl) ?_
  refine lv_iconst (v := (-1)) hx hb dX4_broughtTo_1 (by decide) ?_
  refine lv_icmp_eq (tgt := 12) hx hb dX4_broughtTo_2 (by decide) (fun hc => ?_) (fun hc => ?_)
  · replace h := if_t h hc
    refine lv_iconst (v := (-1)) hx hb dX4_broughtTo_12 (by decide) ?_
    refine lv_istore (lv' := [(4, .int ((-1))), (0, .ref (adr Γ 4)), (1, .int x1), (2, .int x2), (3, .int x3)]) hx hb dX4_broughtTo_13 hl (by decide) rfl (fun ls hl => ?_)
    refine lv_iconst (v := 0) hx hb dX4_broughtTo_15 (by decide) ?_
    refine lv_istore (lv' := [(5, .int 0), (4, .int ((-1))), (0, .ref (adr Γ 4)), (1, .int x1), (2, .int x2), (3, .int x3)]) hx hb dX4_broughtTo_16 hl (by decide) rfl (fun ls hl => ?_)
    exact b_X4_broughtTo_18 X σ x1 x2 x3  1000  ((-1)) 0 h _ _ _ hH (lv_sub hl [2, 3, 5, 1, 0] rfl)
  · replace h := if_f h hc
    refine lv_aload_n hx hb dX4_broughtTo_5 rfl (lv_at hl 0 rfl) ?_
    refine r_get X.1 hH (by decide) rfl rfl inlX4 1 (by decide) (v := .ref (adr Γ 5)) rfl mw_40 dX4_broughtTo_6 ?_
    refine lv_iload_n hx hb dX4_broughtTo_9 rfl (lv_at hl 2 rfl) ?_
    obtain ⟨hg108, h⟩ := chk_some h
    refine r_ild X.1 hH (by decide) rfl hg108 dX4_broughtTo_10 ?_
    cases h
    exact e_int X hH rfl dX4_broughtTo_11
/-- CutoffMill$Names.lookedUp(I)I -/
def m_X4_lookedUp (σ : Sg) (x1 : Int32) : Option Int32 := bnd (m_X8_isDeclared σ 0 x1) (fun r102 => if r102 = 0 then chk (inb x1 128) (chk (inb (x1 / (16 : Int32)) 8) (bnd (m_X4_broughtTo σ x1 (σ.1 10 0 x1.toNatClampNeg) (σ.1 12 0 (x1 / (16 : Int32)).toNatClampNeg)) (fun r107 => some r107))) else chk (inb x1 128) (bnd (m_X1_isPublic σ (σ.1 26 0 x1.toNatClampNeg)) (fun r111 => if r111 = 0 then some ((-1)) else some x1)))
set_option maxHeartbeats 4000000 in
set_option maxRecDepth 100000 in
theorem c_X4_lookedUp (l : Launch) {Γ : GG} (hJ : IJ Γ) (σ : Sg) (x1 : Int32) (rf : Int32) (h : m_X4_lookedUp σ x1 = some rf) : CI l yX4_lookedUp (wy yX4_lookedUp cX4_lookedUp 2 (some .int)) { frames := 2, cells := 0, slots := 0, locals := 46 } Γ σ [.ref (adr Γ 4), .int x1] σ rf := by
  refine met_of (by decide +kernel) hJ (Nat.le_of_ble_eq_true rfl) (fun p e s m below meth c ls X hH hl => ?_)
  have hl : lv_has ls 2 [(0, .ref (adr Γ 4)), (1, .int x1)] := hl
  have hx := X.1.1
  have hb := X.1.2.1
  rw [m_X4_lookedUp] at h
  refine lv_aload_n hx hb dX4_lookedUp_0 rfl (lv_at hl 0 rfl) ?_
  refine r_get X.1 hH (by decide) rfl rfl inlX4 0 (by decide) (v := .ref (adr Γ (kT 0))) rfl mw_47 dX4_lookedUp_1 ?_
  refine lv_iload_n hx hb dX4_lookedUp_4 rfl (lv_at hl 1 rfl) ?_
  obtain ⟨r102, hq101, h⟩ := bnd_some h
  refine r_callVI X.1 hl hH (As := [.int x1]) (rest := []) (c_X8_isDeclared l X.1.2.2.2.2.2.2.1 σ 0 (by omega) x1 _ hq101) (cw_V X.1 1 mw_193 mw_190 mw_191 mw_192 mw_12 rfl rfl (by decide +kernel) ⟨Nat.le_of_ble_eq_true rfl, Nat.le_of_ble_eq_true rfl⟩) (r_recv X.1 hH (kT_lt (by omega)) (dT0 _ (by omega)) rfl) rfl rfl (Nat.le_of_ble_eq_true rfl) dX4_lookedUp_5 ⟨Nat.zero_le _, Nat.zero_le _⟩ (fun H locs hH => ?_)
  refine lv_if_eq (tgt := 32) hx hb dX4_lookedUp_8 (by decide) (fun hc => ?_) (fun hc => ?_)
  · replace h := if_t h hc
    refine lv_aload_n hx hb dX4_lookedUp_32 rfl (lv_at hl 0 rfl) ?_
    refine lv_iload_n hx hb dX4_lookedUp_33 rfl (lv_at hl 1 rfl) ?_
    refine lv_aload_n hx hb dX4_lookedUp_34 rfl (lv_at hl 0 rfl) ?_
    refine r_get X.1 hH (by decide) rfl rfl inlX4 5 (by decide) (v := .ref (adr Γ 9)) rfl mw_44 dX4_lookedUp_35 ?_
    refine lv_iload_n hx hb dX4_lookedUp_38 rfl (lv_at hl 1 rfl) ?_
    obtain ⟨hg104, h⟩ := chk_some h
    refine r_ild X.1 hH (by decide) rfl hg104 dX4_lookedUp_39 ?_
    refine lv_aload_n hx hb dX4_lookedUp_40 rfl (lv_at hl 0 rfl) ?_
    refine r_get X.1 hH (by decide) rfl rfl inlX4 7 (by decide) (v := .ref (adr Γ 11)) rfl mw_46 dX4_lookedUp_41 ?_
    refine lv_iload_n hx hb dX4_lookedUp_44 rfl (lv_at hl 1 rfl) ?_
    refine lv_bipush (v := 16) hx hb dX4_lookedUp_45 (by decide) ?_
    refine lv_idiv hx hb dX4_lookedUp_47 (by decide) ?_
    obtain ⟨hg105, h⟩ := chk_some h
    refine r_ild X.1 hH (by decide) rfl hg105 dX4_lookedUp_48 ?_
    obtain ⟨r107, hq106, h⟩ := bnd_some h
    refine r_callVI X.1 hl hH (As := [.int x1, .int (σ.1 10 0 x1.toNatClampNeg), .int (σ.1 12 0 (x1 / (16 : Int32)).toNatClampNeg)]) (rest := []) (c_X4_broughtTo l X.1.2.2.2.2.2.2.1 σ x1 (σ.1 10 0 x1.toNatClampNeg) (σ.1 12 0 (x1 / (16 : Int32)).toNatClampNeg) _ hq106) (cw_V X.1 3 mw_201 mw_198 mw_199 mw_200 mw_16 rfl rfl (by decide +kernel) ⟨Nat.le_of_ble_eq_true rfl, Nat.le_of_ble_eq_true rfl⟩) (r_recv X.1 hH (by decide) rfl rfl) rfl rfl (Nat.le_of_ble_eq_true rfl) dX4_lookedUp_49 ⟨Nat.zero_le _, Nat.zero_le _⟩ (fun H locs hH => ?_)
    cases h
    exact e_int X hH rfl dX4_lookedUp_52
  · replace h := if_f h hc
    refine lv_aload_n hx hb dX4_lookedUp_11 rfl (lv_at hl 0 rfl) ?_
    refine r_get X.1 hH (by decide) rfl rfl inlX4 0 (by decide) (v := .ref (adr Γ (kT 0))) rfl mw_47 dX4_lookedUp_12 ?_
    refine r_get X.1 hH (kT_lt (by omega)) (dT0 _ (by omega)) rfl inlX8 0 (by decide) (v := .ref (adr Γ (kT 0 + 1))) rfl mw_189 dX4_lookedUp_15 ?_
    refine lv_iload_n hx hb dX4_lookedUp_18 rfl (lv_at hl 1 rfl) ?_
    obtain ⟨hg109, h⟩ := chk_some h
    refine r_ild X.1 hH (lT1 _ (by omega)) (dT1 _ (by omega)) hg109 dX4_lookedUp_19 ?_
    obtain ⟨r111, hq110, h⟩ := bnd_some h
    refine r_callSI X.1 hl hH (As := [.int (σ.1 26 0 x1.toNatClampNeg)]) (rest := []) (c_X1_isPublic l X.1.2.2.2.2.2.2.1 σ (σ.1 26 0 x1.toNatClampNeg) _ hq110) (cw_S X.1 1 mw_197 mw_194 mw_195 mw_196 rfl rfl (by decide +kernel) ⟨Nat.le_of_ble_eq_true rfl, Nat.le_of_ble_eq_true rfl⟩) rfl rfl (Nat.le_of_ble_eq_true rfl) dX4_lookedUp_20 ⟨Nat.zero_le _, Nat.zero_le _⟩ (fun H locs hH => ?_)
    refine lv_if_eq (tgt := 30) hx hb dX4_lookedUp_23 (by decide) (fun hc => ?_) (fun hc => ?_)
    · replace h := if_t h hc
      refine lv_iconst (v := (-1)) hx hb dX4_lookedUp_30 (by decide) ?_
      cases h
      exact e_int X hH rfl dX4_lookedUp_31
    · replace h := if_f h hc
      refine lv_iload_n hx hb dX4_lookedUp_26 rfl (lv_at hl 1 rfl) ?_
      refine lv_goto (tgt := 31) hx hb dX4_lookedUp_27 (by decide) ?_
      cases h
      exact e_int X hH rfl dX4_lookedUp_31
def m_X4_settleOutside_27  (k12 : Sg → Int32 → Int32 → Option Sg) : Nat → Sg → Int32 → Int32 → Int32 → Option Sg
  | 0, _, _, _, _ => none
  | n + 1, σ, x1, x2, x3 => if ((σ.1 29 0 0) * (16 : Int32)) ≤ x3 then k12 σ x1 (x2 + 1) else bnd (m_X4_lookedUp σ x3) (fun r105 => chk (inb x3 128) (if r105 = (σ.1 6 0 x3.toNatClampNeg) then m_X4_settleOutside_27  k12 n σ x1 x2 (x3 + 1) else chk (inb x3 128) (st (wI σ 6 0 x3.toNatClampNeg r105) (fun σ109 => m_X4_settleOutside_27  k12 n σ109 1 x2 (x3 + 1)))))
set_option maxHeartbeats 4000000 in
set_option maxRecDepth 100000 in
theorem b_X4_settleOutside_27 {p : Program} {l : Launch} {e : Env} {s : State} {m : MethodId} {args : Array Value} {below : List Frame} {meth : Method} {c : Code} {Γ : GG} (X : MB Γ p s m args meth c cX4_settleOutside 5 RX4 none) {σf : Sg} {rf : Unit}  (k12 : Sg → Int32 → Int32 → Option Sg) (hk12 : (∀ (σ : Sg) (x1 : Int32) (x2 : Int32), k12 σ x1 x2 = some σf → ∀ (H : Heap) (locs : List Loc) (ls : Array Slot), HW (IA Γ) Γ σ s.heap H locs → lv_has ls 5 [(0, .ref (adr Γ 4)), (1, .int x1), (2, .int x2)] → W p l e ({ frames := 3, cells := 0, slots := 0, locals := 67 } : Room) s m args below meth c H locs 0 0 (QV Γ σf rf below args s) (F0 m 12 ls []))) : ∀ (n : Nat), (∀ (σ : Sg) (x1 : Int32) (x2 : Int32) (x3 : Int32), (m_X4_settleOutside_27  k12 n) σ x1 x2 x3 = some σf → ∀ (H : Heap) (locs : List Loc) (ls : Array Slot), HW (IA Γ) Γ σ s.heap H locs → lv_has ls 5 [(0, .ref (adr Γ 4)), (1, .int x1), (2, .int x2), (3, .int x3)] → W p l e ({ frames := 3, cells := 0, slots := 0, locals := 67 } : Room) s m args below meth c H locs 0 0 (QV Γ σf rf below args s) (F0 m 27 ls [])) := by
  have hx := X.1.1
  have hb := X.1.2.1
  intro n
  induction n with
  | zero => intro σ x1 x2 x3 h; rw [m_X4_settleOutside_27] at h; cases h
  | succ n ih =>
    intro σ x1 x2 x3 h H locs ls hH hl
    rw [m_X4_settleOutside_27] at h
    refine lv_iload_n hx hb dX4_settleOutside_27 rfl (lv_at hl 3 rfl) ?_
    refine lv_aload_n hx hb dX4_settleOutside_28 rfl (lv_at hl 0 rfl) ?_
    refine r_get X.1 hH (by decide) rfl rfl inlX4 0 (by decide) (v := .ref (adr Γ (kT 0))) rfl mw_47 dX4_settleOutside_29 ?_
    refine r_get X.1 hH (kT_lt (by omega)) (dT0 _ (by omega)) rfl inlX8 3 (by decide) (v := .int (σ.1 29 0 0)) rfl mw_146 dX4_settleOutside_32 ?_
    refine lv_bipush (v := 16) hx hb dX4_settleOutside_35 (by decide) ?_
    refine lv_imul hx hb dX4_settleOutside_37 ?_
    refine lv_icmp_ge (tgt := 75) hx hb dX4_settleOutside_38 (by decide) (fun hc => ?_) (fun hc => ?_)
    · replace h := if_t h hc
      refine lv_iinc (v := x2 + 1) (lv' := [(2, .int (x2 + 1)), (0, .ref (adr Γ 4)), (1, .int x1), (3, .int x3)]) hx hb dX4_settleOutside_75 hl (k := 2) rfl rfl (by decide) rfl (fun ls hl => ?_)
      refine lv_goto (tgt := 12) hx hb dX4_settleOutside_78 (by decide) ?_
      exact hk12 σ x1 (x2 + 1) h _ _ _ hH (lv_sub hl [1, 2, 0] rfl)
    · replace h := if_f h hc
      refine lv_aload_n hx hb dX4_settleOutside_41 rfl (lv_at hl 0 rfl) ?_
      refine lv_iload_n hx hb dX4_settleOutside_42 rfl (lv_at hl 3 rfl) ?_
      obtain ⟨r105, hq104, h⟩ := bnd_some h
      refine r_callVI X.1 hl hH (As := [.int x3]) (rest := []) (c_X4_lookedUp l X.1.2.2.2.2.2.2.1 σ x3 _ hq104) (cw_V X.1 1 mw_188 mw_185 mw_186 mw_187 mw_16 rfl rfl (by decide +kernel) ⟨Nat.le_of_ble_eq_true rfl, Nat.le_of_ble_eq_true rfl⟩) (r_recv X.1 hH (by decide) rfl rfl) rfl rfl (Nat.le_of_ble_eq_true rfl) dX4_settleOutside_43 ⟨Nat.zero_le _, Nat.zero_le _⟩ (fun H locs hH => ?_)
      refine lv_istore (lv' := [(4, .int r105), (0, .ref (adr Γ 4)), (1, .int x1), (2, .int x2), (3, .int x3)]) hx hb dX4_settleOutside_46 hl (by decide) rfl (fun ls hl => ?_)
      refine lv_iload hx hb dX4_settleOutside_48 (lv_at hl 0 rfl) ?_
      refine lv_aload_n hx hb dX4_settleOutside_50 rfl (lv_at hl 1 rfl) ?_
      refine r_get X.1 hH (by decide) rfl rfl inlX4 1 (by decide) (v := .ref (adr Γ 5)) rfl mw_40 dX4_settleOutside_51 ?_
      refine lv_iload_n hx hb dX4_settleOutside_54 rfl (lv_at hl 4 rfl) ?_
      obtain ⟨hg107, h⟩ := chk_some h
      refine r_ild X.1 hH (by decide) rfl hg107 dX4_settleOutside_55 ?_
      refine lv_icmp_eq (tgt := 69) hx hb dX4_settleOutside_56 (by decide) (fun hc => ?_) (fun hc => ?_)
      · replace h := if_t h hc
        refine lv_iinc (v := x3 + 1) (lv' := [(3, .int (x3 + 1)), (4, .int r105), (0, .ref (adr Γ 4)), (1, .int x1), (2, .int x2)]) hx hb dX4_settleOutside_69 hl (k := 4) rfl rfl (by decide) rfl (fun ls hl => ?_)
        refine lv_goto (tgt := 27) hx hb dX4_settleOutside_72 (by decide) ?_
        exact ih σ x1 x2 (x3 + 1) h _ _ _ hH (lv_sub hl [2, 3, 4, 0] rfl)
      · replace h := if_f h hc
        refine lv_aload_n hx hb dX4_settleOutside_59 rfl (lv_at hl 1 rfl) ?_
        refine r_get X.1 hH (by decide) rfl rfl inlX4 1 (by decide) (v := .ref (adr Γ 5)) rfl mw_40 dX4_settleOutside_60 ?_
        refine lv_iload_n hx hb dX4_settleOutside_63 rfl (lv_at hl 4 rfl) ?_
        refine lv_iload hx hb dX4_settleOutside_64 (lv_at hl 0 rfl) ?_
        obtain ⟨hg108, h⟩ := chk_some h
        obtain ⟨σ109, e110, h⟩ := st_some h
        refine r_ist X.1 hH (by decide) rfl hg108 dX4_settleOutside_66 (fun H locs hH => ?_)
        replace hH : HW (IA Γ) Γ σ109 s.heap H locs := by rw [e110]; exact hH
        refine lv_iconst (v := 1) hx hb dX4_settleOutside_67 (by decide) ?_
        refine lv_istore_n (lv' := [(1, .int 1), (4, .int r105), (0, .ref (adr Γ 4)), (2, .int x2), (3, .int x3)]) hx hb dX4_settleOutside_68 rfl hl (by decide) rfl (fun ls hl => ?_)
        refine lv_iinc (v := x3 + 1) (lv' := [(3, .int (x3 + 1)), (1, .int 1), (4, .int r105), (0, .ref (adr Γ 4)), (2, .int x2)]) hx hb dX4_settleOutside_69 hl (k := 4) rfl rfl (by decide) rfl (fun ls hl => ?_)
        refine lv_goto (tgt := 27) hx hb dX4_settleOutside_72 (by decide) ?_
        exact ih σ109 1 x2 (x3 + 1) h _ _ _ hH (lv_sub hl [3, 1, 4, 0] rfl)
def m_X4_settleOutside_12   : Nat → Sg → Int32 → Int32 → Option Sg
  | 0, _, _, _ => none
  | n + 1, σ, x1, x2 => if 256 < x2 then some σ else if x1 = 0 then some σ else m_X4_settleOutside_27  (m_X4_settleOutside_12  n) 1000 σ 0 x2 0
set_option maxHeartbeats 4000000 in
set_option maxRecDepth 100000 in
theorem b_X4_settleOutside_12 {p : Program} {l : Launch} {e : Env} {s : State} {m : MethodId} {args : Array Value} {below : List Frame} {meth : Method} {c : Code} {Γ : GG} (X : MB Γ p s m args meth c cX4_settleOutside 5 RX4 none) {σf : Sg} {rf : Unit}  : ∀ (n : Nat), (∀ (σ : Sg) (x1 : Int32) (x2 : Int32), (m_X4_settleOutside_12  n) σ x1 x2 = some σf → ∀ (H : Heap) (locs : List Loc) (ls : Array Slot), HW (IA Γ) Γ σ s.heap H locs → lv_has ls 5 [(0, .ref (adr Γ 4)), (1, .int x1), (2, .int x2)] → W p l e ({ frames := 3, cells := 0, slots := 0, locals := 67 } : Room) s m args below meth c H locs 0 0 (QV Γ σf rf below args s) (F0 m 12 ls [])) := by
  have hx := X.1.1
  have hb := X.1.2.1
  intro n
  induction n with
  | zero => intro σ x1 x2 h; rw [m_X4_settleOutside_12] at h; cases h
  | succ n ih =>
    intro σ x1 x2 h H locs ls hH hl
    rw [m_X4_settleOutside_12] at h
    refine lv_iload_n hx hb dX4_settleOutside_12 rfl (lv_at hl 2 rfl) ?_
    refine lv_sipush (v := 256) hx hb dX4_settleOutside_13 (by decide) ?_
    refine lv_icmp_gt (tgt := 81) hx hb dX4_settleOutside_16 (by decide) (fun hc => ?_) (fun hc => ?_)
    · replace h := if_t h hc
      cases h
      exact e_void (v := rf) X hH dX4_settleOutside_81
    · replace h := if_f h hc
      refine lv_iload_n hx hb dX4_settleOutside_19 rfl (lv_at hl 1 rfl) ?_
      refine lv_if_eq (tgt := 81) hx hb dX4_settleOutside_20 (by decide) (fun hc => ?_) (fun hc => ?_)
      · replace h := if_t h hc
        cases h
        exact e_void (v := rf) X hH dX4_settleOutside_81
      · replace h := if_f h hc
        refine lv_iconst (v := 0) hx hb dX4_settleOutside_23 (by decide) ?_
        refine lv_istore_n (lv' := [(1, .int 0), (0, .ref (adr Γ 4)), (2, .int x2)]) hx hb dX4_settleOutside_24 rfl hl (by decide) rfl (fun ls hl => ?_)
        refine lv_iconst (v := 0) hx hb dX4_settleOutside_25 (by decide) ?_
        refine lv_istore_n (lv' := [(3, .int 0), (1, .int 0), (0, .ref (adr Γ 4)), (2, .int x2)]) hx hb dX4_settleOutside_26 rfl hl (by decide) rfl (fun ls hl => ?_)
        exact b_X4_settleOutside_27 (rf := ()) X  (m_X4_settleOutside_12  n) ih 1000 σ 0 x2 0 h _ _ _ hH (lv_sub hl [2, 1, 3, 0] rfl)
/-- CutoffMill$Names.settleOutside()V -/
def m_X4_settleOutside (σ : Sg)  : Option Sg := bnd (m_J7_fill_53178 σ 6 0 128 ((-1))) (fun σ103 => m_X4_settleOutside_12  1000 σ103 1 0)
set_option maxHeartbeats 4000000 in
set_option maxRecDepth 100000 in
theorem c_X4_settleOutside (l : Launch) {Γ : GG} (hJ : IJ Γ) (σ : Sg)  (σf : Sg) (rf : Unit) (h : m_X4_settleOutside σ  = some σf) : CV l yX4_settleOutside (wy yX4_settleOutside cX4_settleOutside 5 none) { frames := 3, cells := 0, slots := 0, locals := 67 } Γ σ [.ref (adr Γ 4)] σf rf := by
  refine met_of (by decide +kernel) hJ (Nat.le_of_ble_eq_true rfl) (fun p e s m below meth c ls X hH hl => ?_)
  have hl : lv_has ls 5 [(0, .ref (adr Γ 4))] := hl
  have hx := X.1.1
  have hb := X.1.2.1
  rw [m_X4_settleOutside] at h
  refine lv_aload_n hx hb dX4_settleOutside_0 rfl (lv_at hl 0 rfl) ?_
  refine r_get X.1 hH (by decide) rfl rfl inlX4 1 (by decide) (v := .ref (adr Γ 5)) rfl mw_40 dX4_settleOutside_1 ?_
  refine lv_iconst (v := (-1)) hx hb dX4_settleOutside_4 (by decide) ?_
  obtain ⟨σ103, hq101, h⟩ := bnd_some h
  refine r_callSV X.1 hl hH (r := ()) (As := [.ref (adr Γ 5), .int ((-1))]) (rest := []) (c_J7_fill_53178 l X.1.2.2.2.2.2.2.1 σ 6 0 128 5 (by decide) rfl ((-1)) _ () hq101) (cw_S X.1 2 mw_155 mw_152 mw_153 mw_154 rfl rfl (by decide +kernel) ⟨Nat.le_of_ble_eq_true rfl, Nat.le_of_ble_eq_true rfl⟩) rfl rfl (Nat.le_of_ble_eq_true rfl) dX4_settleOutside_5 ⟨Nat.zero_le _, Nat.zero_le _⟩ (fun H locs hH => ?_)
  refine lv_iconst (v := 1) hx hb dX4_settleOutside_8 (by decide) ?_
  refine lv_istore_n (lv' := [(1, .int 1), (0, .ref (adr Γ 4))]) hx hb dX4_settleOutside_9 rfl hl (by decide) rfl (fun ls hl => ?_)
  refine lv_iconst (v := 0) hx hb dX4_settleOutside_10 (by decide) ?_
  refine lv_istore_n (lv' := [(2, .int 0), (1, .int 1), (0, .ref (adr Γ 4))]) hx hb dX4_settleOutside_11 rfl hl (by decide) rfl (fun ls hl => ?_)
  exact b_X4_settleOutside_12 (rf := ()) X   1000 σ103 1 0 h _ _ _ hH (lv_sub hl [2, 1, 0] rfl)
