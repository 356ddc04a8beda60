/-! WALKS, laid by wip/p23/gen.py: L_below, L_isBuilt, L_edit -/
/-- CutoffMillLaw.below(II)I -/
def m_L_below (σ : Sg) (x0 : Int32) (x1 : Int32) : Option Int32 := chk (x1 != 0) (some ((x0 &&& (2147483647 : Int32)) - (x0 &&& (2147483647 : Int32)) / x1 * x1))
set_option maxHeartbeats 4000000 in
set_option maxRecDepth 100000 in
theorem c_L_below (l : Launch) {Γ : GG} (hJ : IJ Γ) (σ : Sg) (x0 : Int32) (x1 : Int32) (rf : Int32) (h : m_L_below σ x0 x1 = some rf) : CI l yL_below (wy yL_below cL_below 2 (some .int)) { frames := 0, cells := 0, slots := 0, locals := 0 } Γ σ [.int x0, .int x1] σ rf := by
  refine met_of (by decide +kernel) hJ (Nat.le_of_ble_eq_true rfl) (fun p e s m below meth c ls X hH hl => ?_)
  have hl : lv_has ls 2 [(0, .int x0), (1, .int x1)] := hl
  have hx := X.1.1
  have hb := X.1.2.1
  rw [m_L_below] at h
  refine lv_iload_n hx hb dL_below_0 rfl (lv_at hl 0 rfl) ?_
  refine lv_ldc (v := 2147483647) hx hb X.1.2.2.2.1 (X.1.hts _ mw_130) dL_below_1 ?_
  refine lv_iand hx hb dL_below_3 ?_
  refine lv_iload_n hx hb dL_below_4 rfl (lv_at hl 1 rfl) ?_
  obtain ⟨hg101, h⟩ := chk_some h
  refine lv_irem hx hb dL_below_5 (bne_iff_ne.mp hg101) ?_
  cases h
  exact e_int X hH rfl dL_below_6
def m_L_isBuilt_121 (x1 : Int32) (k4 : Sg → Int32 → Int32 → Option (Sg × Int32)) (k12 : Sg → Int32 → Int32 → Int32 → Option (Sg × Int32)) (σ : Sg) (x2 : Int32) (x3 : Int32) (x4 : Int32) (x5 : Int32) : Option (Sg × Int32) := if x5 = 0 then k12 σ x2 x3 (x4 + 1) else bnd (m_X10_fault σ x2 1) (fun r111 => if r111 = x3 then bnd (m_X10_fault σ x2 2) (fun r114 => if r114 = x4 then bnd (m_X10_fault σ x2 0) (fun r117 => if r117 = x5 then k12 σ (x2 + 1) x3 (x4 + 1) else some (σ, 0)) else some (σ, 0)) else some (σ, 0))
set_option maxHeartbeats 4000000 in
set_option maxRecDepth 100000 in
theorem b_L_isBuilt_121 {p : Program} {l : Launch} {e : Env} {s : State} {m : MethodId} {args : Array Value} {below : List Frame} {meth : Method} {c : Code} {Γ : GG} (X : MB Γ p s m args meth c cL_isBuilt 6 RL (some .boolean)) {σf : Sg} {rf : Int32} (x1 : Int32) (k4 : Sg → Int32 → Int32 → Option (Sg × Int32)) (hk4 : (∀ (σ : Sg) (x2 : Int32) (x3 : Int32), k4 σ x2 x3 = some (σf, rf) → ∀ (H : Heap) (locs : List Loc) (ls : Array Slot), HW (IA Γ) Γ σ s.heap H locs → lv_has ls 6 [(0, .ref (adr Γ 0)), (1, .int x1), (2, .int x2), (3, .int x3)] → W p l e ({ frames := 6, cells := 0, slots := 0, locals := 132 } : Room) s m args below meth c H locs 0 0 (QI Γ σf rf below args s) (F0 m 4 ls []))) (k12 : Sg → Int32 → Int32 → Int32 → Option (Sg × Int32)) (hk12 : (∀ (σ : Sg) (x2 : Int32) (x3 : Int32) (x4 : Int32), k12 σ x2 x3 x4 = some (σf, rf) → ∀ (H : Heap) (locs : List Loc) (ls : Array Slot), HW (IA Γ) Γ σ s.heap H locs → lv_has ls 6 [(0, .ref (adr Γ 0)), (1, .int x1), (2, .int x2), (3, .int x3), (4, .int x4)] → W p l e ({ frames := 6, cells := 0, slots := 0, locals := 132 } : Room) s m args below meth c H locs 0 0 (QI Γ σf rf below args s) (F0 m 12 ls []))) : (∀ (σ : Sg) (x2 : Int32) (x3 : Int32) (x4 : Int32) (x5 : Int32), (m_L_isBuilt_121 x1 k4 k12) σ x2 x3 x4 x5 = some (σf, rf) → ∀ (H : Heap) (locs : List Loc) (ls : Array Slot), HW (IA Γ) Γ σ s.heap H locs → lv_has ls 6 [(0, .ref (adr Γ 0)), (1, .int x1), (2, .int x2), (3, .int x3), (4, .int x4), (5, .int x5)] → W p l e ({ frames := 6, cells := 0, slots := 0, locals := 132 } : Room) s m args below meth c H locs 0 0 (QI Γ σf rf below args s) (F0 m 121 ls [])) := by
  have hx := X.1.1
  have hb := X.1.2.1
  intro σ x2 x3 x4 x5 h H locs ls hH hl
  rw [m_L_isBuilt_121] at h
  refine lv_iload hx hb dL_isBuilt_121 (lv_at hl 5 rfl) ?_
  refine lv_if_ne (tgt := 129) hx hb dL_isBuilt_123 (by decide) (fun hc => ?_) (fun hc => ?_)
  · replace h := if_f h hc
    refine lv_aload_n hx hb dL_isBuilt_129 rfl (lv_at hl 0 rfl) ?_
    refine lv_iload_n hx hb dL_isBuilt_130 rfl (lv_at hl 2 rfl) ?_
    refine lv_iconst (v := 1) hx hb dL_isBuilt_131 (by decide) ?_
    obtain ⟨r111, hq110, h⟩ := bnd_some h
    refine r_callVI X.1 hl hH (As := [.int x2, .int 1]) (rest := []) (c_X10_fault l X.1.2.2.2.2.2.2.1 σ x2 1 _ hq110) (cw_V X.1 2 mw_627 mw_624 mw_625 mw_626 mw_2 rfl rfl (by decide +kernel) ⟨Nat.le_of_ble_eq_true rfl, Nat.le_of_ble_eq_true rfl⟩) (r_recv X.1 hH (by decide) rfl rfl) rfl rfl (Nat.le_of_ble_eq_true rfl) dL_isBuilt_132 ⟨Nat.zero_le _, Nat.zero_le _⟩ (fun H locs hH => ?_)
    refine lv_iload_n hx hb dL_isBuilt_135 rfl (lv_at hl 3 rfl) ?_
    refine lv_icmp_ne (tgt := 161) hx hb dL_isBuilt_136 (by decide) (fun hc => ?_) (fun hc => ?_)
    · replace h := if_f h hc
      refine lv_iconst (v := 0) hx hb dL_isBuilt_161 (by decide) ?_
      cases h
      exact e_int X hH rfl dL_isBuilt_162
    · replace h := if_t h hc
      refine lv_aload_n hx hb dL_isBuilt_139 rfl (lv_at hl 0 rfl) ?_
      refine lv_iload_n hx hb dL_isBuilt_140 rfl (lv_at hl 2 rfl) ?_
      refine lv_iconst (v := 2) hx hb dL_isBuilt_141 (by decide) ?_
      obtain ⟨r114, hq113, h⟩ := bnd_some h
      refine r_callVI X.1 hl hH (As := [.int x2, .int 2]) (rest := []) (c_X10_fault l X.1.2.2.2.2.2.2.1 σ x2 2 _ hq113) (cw_V X.1 2 mw_627 mw_624 mw_625 mw_626 mw_2 rfl rfl (by decide +kernel) ⟨Nat.le_of_ble_eq_true rfl, Nat.le_of_ble_eq_true rfl⟩) (r_recv X.1 hH (by decide) rfl rfl) rfl rfl (Nat.le_of_ble_eq_true rfl) dL_isBuilt_142 ⟨Nat.zero_le _, Nat.zero_le _⟩ (fun H locs hH => ?_)
      refine lv_iload hx hb dL_isBuilt_145 (lv_at hl 4 rfl) ?_
      refine lv_icmp_ne (tgt := 161) hx hb dL_isBuilt_147 (by decide) (fun hc => ?_) (fun hc => ?_)
      · replace h := if_f h hc
        refine lv_iconst (v := 0) hx hb dL_isBuilt_161 (by decide) ?_
        cases h
        exact e_int X hH rfl dL_isBuilt_162
      · replace h := if_t h hc
        refine lv_aload_n hx hb dL_isBuilt_150 rfl (lv_at hl 0 rfl) ?_
        refine lv_iload_n hx hb dL_isBuilt_151 rfl (lv_at hl 2 rfl) ?_
        refine lv_iconst (v := 0) hx hb dL_isBuilt_152 (by decide) ?_
        obtain ⟨r117, hq116, h⟩ := bnd_some h
        refine r_callVI X.1 hl hH (As := [.int x2, .int 0]) (rest := []) (c_X10_fault l X.1.2.2.2.2.2.2.1 σ x2 0 _ hq116) (cw_V X.1 2 mw_627 mw_624 mw_625 mw_626 mw_2 rfl rfl (by decide +kernel) ⟨Nat.le_of_ble_eq_true rfl, Nat.le_of_ble_eq_true rfl⟩) (r_recv X.1 hH (by decide) rfl rfl) rfl rfl (Nat.le_of_ble_eq_true rfl) dL_isBuilt_153 ⟨Nat.zero_le _, Nat.zero_le _⟩ (fun H locs hH => ?_)
        refine lv_iload hx hb dL_isBuilt_156 (lv_at hl 5 rfl) ?_
        refine lv_icmp_eq (tgt := 163) hx hb dL_isBuilt_158 (by decide) (fun hc => ?_) (fun hc => ?_)
        · replace h := if_t h hc
          refine lv_iinc (v := x2 + 1) (lv' := [(2, .int (x2 + 1)), (0, .ref (adr Γ 0)), (1, .int x1), (3, .int x3), (4, .int x4), (5, .int x5)]) hx hb dL_isBuilt_163 hl (k := 2) rfl rfl (by decide) rfl (fun ls hl => ?_)
          refine lv_iinc (v := x4 + 1) (lv' := [(4, .int (x4 + 1)), (2, .int (x2 + 1)), (0, .ref (adr Γ 0)), (1, .int x1), (3, .int x3), (5, .int x5)]) hx hb dL_isBuilt_166 hl (k := 4) rfl rfl (by decide) rfl (fun ls hl => ?_)
          refine lv_goto (tgt := 12) hx hb dL_isBuilt_169 (by decide) ?_
          exact hk12 σ (x2 + 1) x3 (x4 + 1) h _ _ _ hH (lv_sub hl [2, 3, 1, 4, 0] rfl)
        · replace h := if_f h hc
          refine lv_iconst (v := 0) hx hb dL_isBuilt_161 (by decide) ?_
          cases h
          exact e_int X hH rfl dL_isBuilt_162
  · replace h := if_t h hc
    refine lv_goto (tgt := 166) hx hb dL_isBuilt_126 (by decide) ?_
    refine lv_iinc (v := x4 + 1) (lv' := [(4, .int (x4 + 1)), (0, .ref (adr Γ 0)), (1, .int x1), (2, .int x2), (3, .int x3), (5, .int x5)]) hx hb dL_isBuilt_166 hl (k := 4) rfl rfl (by decide) rfl (fun ls hl => ?_)
    refine lv_goto (tgt := 12) hx hb dL_isBuilt_169 (by decide) ?_
    exact hk12 σ x2 x3 (x4 + 1) h _ _ _ hH (lv_sub hl [1, 2, 3, 4, 0] rfl)
def m_L_isBuilt_78 (x1 : Int32) (k4 : Sg → Int32 → Int32 → Option (Sg × Int32)) (k12 : Sg → Int32 → Int32 → Int32 → Option (Sg × Int32)) (σ : Sg) (x2 : Int32) (x3 : Int32) (x4 : Int32) (x5 : Int32) : Option (Sg × Int32) := bnd (m_X10_built σ x3 x4 1) (fun r108 => if r108 = 1 then bnd (m_X10_built σ x3 x4 3) (fun r120 => if r120 = 0 then bnd2 (m_X10_run σ x3 x4) (fun σ124 r123 => bnd (m_X10_built σ124 x3 x4 2) (fun r126 => if r123 = r126 then m_L_isBuilt_121 x1 k4 k12 σ124 x2 x3 x4 x5 else some (σ124, 0))) else some (σ, 0)) else m_L_isBuilt_121 x1 k4 k12 σ x2 x3 x4 x5)
set_option maxHeartbeats 4000000 in
set_option maxRecDepth 100000 in
theorem b_L_isBuilt_78 {p : Program} {l : Launch} {e : Env} {s : State} {m : MethodId} {args : Array Value} {below : List Frame} {meth : Method} {c : Code} {Γ : GG} (X : MB Γ p s m args meth c cL_isBuilt 6 RL (some .boolean)) {σf : Sg} {rf : Int32} (x1 : Int32) (k4 : Sg → Int32 → Int32 → Option (Sg × Int32)) (hk4 : (∀ (σ : Sg) (x2 : Int32) (x3 : Int32), k4 σ x2 x3 = some (σf, rf) → ∀ (H : Heap) (locs : List Loc) (ls : Array Slot), HW (IA Γ) Γ σ s.heap H locs → lv_has ls 6 [(0, .ref (adr Γ 0)), (1, .int x1), (2, .int x2), (3, .int x3)] → W p l e ({ frames := 6, cells := 0, slots := 0, locals := 132 } : Room) s m args below meth c H locs 0 0 (QI Γ σf rf below args s) (F0 m 4 ls []))) (k12 : Sg → Int32 → Int32 → Int32 → Option (Sg × Int32)) (hk12 : (∀ (σ : Sg) (x2 : Int32) (x3 : Int32) (x4 : Int32), k12 σ x2 x3 x4 = some (σf, rf) → ∀ (H : Heap) (locs : List Loc) (ls : Array Slot), HW (IA Γ) Γ σ s.heap H locs → lv_has ls 6 [(0, .ref (adr Γ 0)), (1, .int x1), (2, .int x2), (3, .int x3), (4, .int x4)] → W p l e ({ frames := 6, cells := 0, slots := 0, locals := 132 } : Room) s m args below meth c H locs 0 0 (QI Γ σf rf below args s) (F0 m 12 ls []))) : (∀ (σ : Sg) (x2 : Int32) (x3 : Int32) (x4 : Int32) (x5 : Int32), (m_L_isBuilt_78 x1 k4 k12) σ x2 x3 x4 x5 = some (σf, rf) → ∀ (H : Heap) (locs : List Loc) (ls : Array Slot), HW (IA Γ) Γ σ s.heap H locs → lv_has ls 6 [(0, .ref (adr Γ 0)), (1, .int x1), (2, .int x2), (3, .int x3), (4, .int x4), (5, .int x5)] → W p l e ({ frames := 6, cells := 0, slots := 0, locals := 132 } : Room) s m args below meth c H locs 0 0 (QI Γ σf rf below args s) (F0 m 78 ls [])) := by
  have hx := X.1.1
  have hb := X.1.2.1
  intro σ x2 x3 x4 x5 h H locs ls hH hl
  rw [m_L_isBuilt_78] at h
  refine lv_aload_n hx hb dL_isBuilt_78 rfl (lv_at hl 0 rfl) ?_
  refine lv_iload_n hx hb dL_isBuilt_79 rfl (lv_at hl 3 rfl) ?_
  refine lv_iload hx hb dL_isBuilt_80 (lv_at hl 4 rfl) ?_
  refine lv_iconst (v := 1) hx hb dL_isBuilt_82 (by decide) ?_
  obtain ⟨r108, hq107, h⟩ := bnd_some h
  refine r_callVI X.1 hl hH (As := [.int x3, .int x4, .int 1]) (rest := []) (c_X10_built l X.1.2.2.2.2.2.2.1 σ x3 x4 1 _ hq107) (cw_V X.1 3 mw_593 mw_590 mw_591 mw_592 mw_2 rfl rfl (by decide +kernel) ⟨Nat.le_of_ble_eq_true rfl, Nat.le_of_ble_eq_true rfl⟩) (r_recv X.1 hH (by decide) rfl rfl) rfl rfl (Nat.le_of_ble_eq_true rfl) dL_isBuilt_83 ⟨Nat.zero_le _, Nat.zero_le _⟩ (fun H locs hH => ?_)
  refine lv_iconst (v := 1) hx hb dL_isBuilt_86 (by decide) ?_
  refine lv_icmp_ne (tgt := 121) hx hb dL_isBuilt_87 (by decide) (fun hc => ?_) (fun hc => ?_)
  · replace h := if_f h hc
    exact b_L_isBuilt_121 X x1 k4 hk4 k12 hk12 σ x2 x3 x4 x5 h _ _ _ hH (lv_sub hl [0, 1, 2, 3, 4, 5] rfl)
  · replace h := if_t h hc
    refine lv_aload_n hx hb dL_isBuilt_90 rfl (lv_at hl 0 rfl) ?_
    refine lv_iload_n hx hb dL_isBuilt_91 rfl (lv_at hl 3 rfl) ?_
    refine lv_iload hx hb dL_isBuilt_92 (lv_at hl 4 rfl) ?_
    refine lv_iconst (v := 3) hx hb dL_isBuilt_94 (by decide) ?_
    obtain ⟨r120, hq119, h⟩ := bnd_some h
    refine r_callVI X.1 hl hH (As := [.int x3, .int x4, .int 3]) (rest := []) (c_X10_built l X.1.2.2.2.2.2.2.1 σ x3 x4 3 _ hq119) (cw_V X.1 3 mw_593 mw_590 mw_591 mw_592 mw_2 rfl rfl (by decide +kernel) ⟨Nat.le_of_ble_eq_true rfl, Nat.le_of_ble_eq_true rfl⟩) (r_recv X.1 hH (by decide) rfl rfl) rfl rfl (Nat.le_of_ble_eq_true rfl) dL_isBuilt_95 ⟨Nat.zero_le _, Nat.zero_le _⟩ (fun H locs hH => ?_)
    refine lv_if_ne (tgt := 119) hx hb dL_isBuilt_98 (by decide) (fun hc => ?_) (fun hc => ?_)
    · replace h := if_f h hc
      refine lv_iconst (v := 0) hx hb dL_isBuilt_119 (by decide) ?_
      cases h
      exact e_int X hH rfl dL_isBuilt_120
    · replace h := if_t h hc
      refine lv_aload_n hx hb dL_isBuilt_101 rfl (lv_at hl 0 rfl) ?_
      refine lv_iload_n hx hb dL_isBuilt_102 rfl (lv_at hl 3 rfl) ?_
      refine lv_iload hx hb dL_isBuilt_103 (lv_at hl 4 rfl) ?_
      obtain ⟨σ124, r123, hq122, h⟩ := bnd2_some h
      refine r_callVI X.1 hl hH (As := [.int x3, .int x4]) (rest := []) (c_X10_run l X.1.2.2.2.2.2.2.1 σ x3 x4 _ _ hq122) (cw_V X.1 2 mw_613 mw_610 mw_611 mw_612 mw_2 rfl rfl (by decide +kernel) ⟨Nat.le_of_ble_eq_true rfl, Nat.le_of_ble_eq_true rfl⟩) (r_recv X.1 hH (by decide) rfl rfl) rfl rfl (Nat.le_of_ble_eq_true rfl) dL_isBuilt_105 ⟨Nat.zero_le _, Nat.zero_le _⟩ (fun H locs hH => ?_)
      refine lv_aload_n hx hb dL_isBuilt_108 rfl (lv_at hl 0 rfl) ?_
      refine lv_iload_n hx hb dL_isBuilt_109 rfl (lv_at hl 3 rfl) ?_
      refine lv_iload hx hb dL_isBuilt_110 (lv_at hl 4 rfl) ?_
      refine lv_iconst (v := 2) hx hb dL_isBuilt_112 (by decide) ?_
      obtain ⟨r126, hq125, h⟩ := bnd_some h
      refine r_callVI X.1 hl hH (As := [.int x3, .int x4, .int 2]) (rest := [.int r123]) (c_X10_built l X.1.2.2.2.2.2.2.1 σ124 x3 x4 2 _ hq125) (cw_V X.1 3 mw_593 mw_590 mw_591 mw_592 mw_2 rfl rfl (by decide +kernel) ⟨Nat.le_of_ble_eq_true rfl, Nat.le_of_ble_eq_true rfl⟩) (r_recv X.1 hH (by decide) rfl rfl) rfl rfl (Nat.le_of_ble_eq_true rfl) dL_isBuilt_113 ⟨Nat.zero_le _, Nat.zero_le _⟩ (fun H locs hH => ?_)
      refine lv_icmp_eq (tgt := 121) hx hb dL_isBuilt_116 (by decide) (fun hc => ?_) (fun hc => ?_)
      · replace h := if_t h hc
        exact b_L_isBuilt_121 X x1 k4 hk4 k12 hk12 σ124 x2 x3 x4 x5 h _ _ _ hH (lv_sub hl [0, 1, 2, 3, 4, 5] rfl)
      · replace h := if_f h hc
        refine lv_iconst (v := 0) hx hb dL_isBuilt_119 (by decide) ?_
        cases h
        exact e_int X hH rfl dL_isBuilt_120
def m_L_isBuilt_12 (x1 : Int32) (k4 : Sg → Int32 → Int32 → Option (Sg × Int32)) : Nat → Sg → Int32 → Int32 → Int32 → Option (Sg × Int32)
  | 0, _, _, _, _ => none
  | n + 1, σ, x2, x3, x4 => if 16 ≤ x4 then k4 σ x2 (x3 + 1) else bnd (m_X10_built σ x3 x4 0) (fun r105 => if 0 ≤ r105 then if r105 ≤ 0 then m_L_isBuilt_78 x1 k4 (m_L_isBuilt_12 x1 k4 n) σ x2 x3 x4 r105 else bnd2 (m_X10_run σ x3 x4) (fun σ130 r129 => if r129 = ((-1000000)) then bnd (m_X10_built σ130 x3 x4 2) (fun r132 => if r132 = 0 then bnd (m_X10_built σ130 x3 x4 3) (fun r135 => if r135 = 0 then m_L_isBuilt_78 x1 k4 (m_L_isBuilt_12 x1 k4 n) σ130 x2 x3 x4 r105 else some (σ130, 0)) else some (σ130, 0)) else some (σ130, 0)) else m_L_isBuilt_12 x1 k4 n σ x2 x3 (x4 + 1))
set_option maxHeartbeats 4000000 in
set_option maxRecDepth 100000 in
theorem b_L_isBuilt_12 {p : Program} {l : Launch} {e : Env} {s : State} {m : MethodId} {args : Array Value} {below : List Frame} {meth : Method} {c : Code} {Γ : GG} (X : MB Γ p s m args meth c cL_isBuilt 6 RL (some .boolean)) {σf : Sg} {rf : Int32} (x1 : Int32) (k4 : Sg → Int32 → Int32 → Option (Sg × Int32)) (hk4 : (∀ (σ : Sg) (x2 : Int32) (x3 : Int32), k4 σ x2 x3 = some (σf, rf) → ∀ (H : Heap) (locs : List Loc) (ls : Array Slot), HW (IA Γ) Γ σ s.heap H locs → lv_has ls 6 [(0, .ref (adr Γ 0)), (1, .int x1), (2, .int x2), (3, .int x3)] → W p l e ({ frames := 6, cells := 0, slots := 0, locals := 132 } : Room) s m args below meth c H locs 0 0 (QI Γ σf rf below args s) (F0 m 4 ls []))) : ∀ (n : Nat), (∀ (σ : Sg) (x2 : Int32) (x3 : Int32) (x4 : Int32), (m_L_isBuilt_12 x1 k4 n) σ x2 x3 x4 = some (σf, rf) → ∀ (H : Heap) (locs : List Loc) (ls : Array Slot), HW (IA Γ) Γ σ s.heap H locs → lv_has ls 6 [(0, .ref (adr Γ 0)), (1, .int x1), (2, .int x2), (3, .int x3), (4, .int x4)] → W p l e ({ frames := 6, cells := 0, slots := 0, locals := 132 } : Room) s m args below meth c H locs 0 0 (QI Γ σf rf below args s) (F0 m 12 ls [])) := by
  have hx := X.1.1
  have hb := X.1.2.1
  intro n
  induction n with
  | zero => intro σ x2 x3 x4 h; rw [m_L_isBuilt_12] at h; cases h
  | succ n ih =>
    intro σ x2 x3 x4 h H locs ls hH hl
    rw [m_L_isBuilt_12] at h
    refine lv_iload hx hb dL_isBuilt_12 (lv_at hl 4 rfl) ?_
    refine lv_bipush (v := 16) hx hb dL_isBuilt_14 (by decide) ?_
    refine lv_icmp_ge (tgt := 172) hx hb dL_isBuilt_16 (by decide) (fun hc => ?_) (fun hc => ?_)
    · replace h := if_t h hc
      refine lv_iinc (v := x3 + 1) (lv' := [(3, .int (x3 + 1)), (0, .ref (adr Γ 0)), (1, .int x1), (2, .int x2), (4, .int x4)]) hx hb dL_isBuilt_172 hl (k := 3) rfl rfl (by decide) rfl (fun ls hl => ?_)
      refine lv_goto (tgt := 4) hx hb dL_isBuilt_175 (by decide) ?_
      exact hk4 σ x2 (x3 + 1) h _ _ _ hH (lv_sub hl [1, 2, 3, 0] rfl)
    · replace h := if_f h hc
      refine lv_aload_n hx hb dL_isBuilt_19 rfl (lv_at hl 0 rfl) ?_
      refine lv_iload_n hx hb dL_isBuilt_20 rfl (lv_at hl 3 rfl) ?_
      refine lv_iload hx hb dL_isBuilt_21 (lv_at hl 4 rfl) ?_
      refine lv_iconst (v := 0) hx hb dL_isBuilt_23 (by decide) ?_
      obtain ⟨r105, hq104, h⟩ := bnd_some h
      refine r_callVI X.1 hl hH (As := [.int x3, .int x4, .int 0]) (rest := []) (c_X10_built l X.1.2.2.2.2.2.2.1 σ x3 x4 0 _ hq104) (cw_V X.1 3 mw_593 mw_590 mw_591 mw_592 mw_2 rfl rfl (by decide +kernel) ⟨Nat.le_of_ble_eq_true rfl, Nat.le_of_ble_eq_true rfl⟩) (r_recv X.1 hH (by decide) rfl rfl) rfl rfl (Nat.le_of_ble_eq_true rfl) dL_isBuilt_24 ⟨Nat.zero_le _, Nat.zero_le _⟩ (fun H locs hH => ?_)
      refine lv_istore (lv' := [(5, .int r105), (0, .ref (adr Γ 0)), (1, .int x1), (2, .int x2), (3, .int x3), (4, .int x4)]) hx hb dL_isBuilt_27 hl (by decide) rfl (fun ls hl => ?_)
      refine lv_iload hx hb dL_isBuilt_29 (lv_at hl 0 rfl) ?_
      refine lv_if_ge (tgt := 37) hx hb dL_isBuilt_31 (by decide) (fun hc => ?_) (fun hc => ?_)
      · replace h := if_t h hc
        refine lv_iload hx hb dL_isBuilt_37 (lv_at hl 0 rfl) ?_
        refine lv_if_le (tgt := 78) hx hb dL_isBuilt_39 (by decide) (fun hc => ?_) (fun hc => ?_)
        · replace h := if_t h hc
          exact b_L_isBuilt_78 X x1 k4 hk4 (m_L_isBuilt_12 x1 k4 n) ih σ x2 x3 x4 r105 h _ _ _ hH (lv_sub hl [1, 2, 3, 4, 5, 0] rfl)
        · replace h := if_f h hc
          refine lv_aload_n hx hb dL_isBuilt_42 rfl (lv_at hl 1 rfl) ?_
          refine lv_iload_n hx hb dL_isBuilt_43 rfl (lv_at hl 4 rfl) ?_
          refine lv_iload hx hb dL_isBuilt_44 (lv_at hl 5 rfl) ?_
          obtain ⟨σ130, r129, hq128, h⟩ := bnd2_some h
          refine r_callVI X.1 hl hH (As := [.int x3, .int x4]) (rest := []) (c_X10_run l X.1.2.2.2.2.2.2.1 σ x3 x4 _ _ hq128) (cw_V X.1 2 mw_613 mw_610 mw_611 mw_612 mw_2 rfl rfl (by decide +kernel) ⟨Nat.le_of_ble_eq_true rfl, Nat.le_of_ble_eq_true rfl⟩) (r_recv X.1 hH (by decide) rfl rfl) rfl rfl (Nat.le_of_ble_eq_true rfl) dL_isBuilt_46 ⟨Nat.zero_le _, Nat.zero_le _⟩ (fun H locs hH => ?_)
          refine lv_ldc (v := (-1000000)) hx hb X.1.2.2.2.1 (X.1.hts _ mw_589) dL_isBuilt_49 ?_
          refine lv_icmp_ne (tgt := 76) hx hb dL_isBuilt_51 (by decide) (fun hc => ?_) (fun hc => ?_)
          · replace h := if_f h hc
            refine lv_iconst (v := 0) hx hb dL_isBuilt_76 (by decide) ?_
            cases h
            exact e_int X hH rfl dL_isBuilt_77
          · replace h := if_t h hc
            refine lv_aload_n hx hb dL_isBuilt_54 rfl (lv_at hl 1 rfl) ?_
            refine lv_iload_n hx hb dL_isBuilt_55 rfl (lv_at hl 4 rfl) ?_
            refine lv_iload hx hb dL_isBuilt_56 (lv_at hl 5 rfl) ?_
            refine lv_iconst (v := 2) hx hb dL_isBuilt_58 (by decide) ?_
            obtain ⟨r132, hq131, h⟩ := bnd_some h
            refine r_callVI X.1 hl hH (As := [.int x3, .int x4, .int 2]) (rest := []) (c_X10_built l X.1.2.2.2.2.2.2.1 σ130 x3 x4 2 _ hq131) (cw_V X.1 3 mw_593 mw_590 mw_591 mw_592 mw_2 rfl rfl (by decide +kernel) ⟨Nat.le_of_ble_eq_true rfl, Nat.le_of_ble_eq_true rfl⟩) (r_recv X.1 hH (by decide) rfl rfl) rfl rfl (Nat.le_of_ble_eq_true rfl) dL_isBuilt_59 ⟨Nat.zero_le _, Nat.zero_le _⟩ (fun H locs hH => ?_)
            refine lv_if_ne (tgt := 76) hx hb dL_isBuilt_62 (by decide) (fun hc => ?_) (fun hc => ?_)
            · replace h := if_f h hc
              refine lv_iconst (v := 0) hx hb dL_isBuilt_76 (by decide) ?_
              cases h
              exact e_int X hH rfl dL_isBuilt_77
            · replace h := if_t h hc
              refine lv_aload_n hx hb dL_isBuilt_65 rfl (lv_at hl 1 rfl) ?_
              refine lv_iload_n hx hb dL_isBuilt_66 rfl (lv_at hl 4 rfl) ?_
              refine lv_iload hx hb dL_isBuilt_67 (lv_at hl 5 rfl) ?_
              refine lv_iconst (v := 3) hx hb dL_isBuilt_69 (by decide) ?_
              obtain ⟨r135, hq134, h⟩ := bnd_some h
              refine r_callVI X.1 hl hH (As := [.int x3, .int x4, .int 3]) (rest := []) (c_X10_built l X.1.2.2.2.2.2.2.1 σ130 x3 x4 3 _ hq134) (cw_V X.1 3 mw_593 mw_590 mw_591 mw_592 mw_2 rfl rfl (by decide +kernel) ⟨Nat.le_of_ble_eq_true rfl, Nat.le_of_ble_eq_true rfl⟩) (r_recv X.1 hH (by decide) rfl rfl) rfl rfl (Nat.le_of_ble_eq_true rfl) dL_isBuilt_70 ⟨Nat.zero_le _, Nat.zero_le _⟩ (fun H locs hH => ?_)
              refine lv_if_eq (tgt := 78) hx hb dL_isBuilt_73 (by decide) (fun hc => ?_) (fun hc => ?_)
              · replace h := if_t h hc
                exact b_L_isBuilt_78 X x1 k4 hk4 (m_L_isBuilt_12 x1 k4 n) ih σ130 x2 x3 x4 r105 h _ _ _ hH (lv_sub hl [1, 2, 3, 4, 5, 0] rfl)
              · replace h := if_f h hc
                refine lv_iconst (v := 0) hx hb dL_isBuilt_76 (by decide) ?_
                cases h
                exact e_int X hH rfl dL_isBuilt_77
      · replace h := if_f h hc
        refine lv_goto (tgt := 166) hx hb dL_isBuilt_34 (by decide) ?_
        refine lv_iinc (v := x4 + 1) (lv' := [(4, .int (x4 + 1)), (5, .int r105), (0, .ref (adr Γ 0)), (1, .int x1), (2, .int x2), (3, .int x3)]) hx hb dL_isBuilt_166 hl (k := 5) rfl rfl (by decide) rfl (fun ls hl => ?_)
        refine lv_goto (tgt := 12) hx hb dL_isBuilt_169 (by decide) ?_
        exact ih σ x2 x3 (x4 + 1) h _ _ _ hH (lv_sub hl [2, 3, 4, 5, 0] rfl)
def m_L_isBuilt_4 (x1 : Int32)  : Nat → Sg → Int32 → Int32 → Option (Sg × Int32)
  | 0, _, _, _ => none
  | n + 1, σ, x2, x3 => if x1 ≤ x3 then bnd (m_X10_many σ 5) (fun r102 => if r102 = x2 then some (σ, 1) else some (σ, 0)) else m_L_isBuilt_12 x1 (m_L_isBuilt_4 x1 n) 1000 σ x2 x3 0
set_option maxHeartbeats 4000000 in
set_option maxRecDepth 100000 in
theorem b_L_isBuilt_4 {p : Program} {l : Launch} {e : Env} {s : State} {m : MethodId} {args : Array Value} {below : List Frame} {meth : Method} {c : Code} {Γ : GG} (X : MB Γ p s m args meth c cL_isBuilt 6 RL (some .boolean)) {σf : Sg} {rf : Int32} (x1 : Int32) : ∀ (n : Nat), (∀ (σ : Sg) (x2 : Int32) (x3 : Int32), (m_L_isBuilt_4 x1 n) σ x2 x3 = some (σf, rf) → ∀ (H : Heap) (locs : List Loc) (ls : Array Slot), HW (IA Γ) Γ σ s.heap H locs → lv_has ls 6 [(0, .ref (adr Γ 0)), (1, .int x1), (2, .int x2), (3, .int x3)] → W p l e ({ frames := 6, cells := 0, slots := 0, locals := 132 } : Room) s m args below meth c H locs 0 0 (QI Γ σf rf below args s) (F0 m 4 ls [])) := by
  have hx := X.1.1
  have hb := X.1.2.1
  intro n
  induction n with
  | zero => intro σ x2 x3 h; rw [m_L_isBuilt_4] at h; cases h
  | succ n ih =>
    intro σ x2 x3 h H locs ls hH hl
    rw [m_L_isBuilt_4] at h
    refine lv_iload_n hx hb dL_isBuilt_4 rfl (lv_at hl 3 rfl) ?_
    refine lv_iload_n hx hb dL_isBuilt_5 rfl (lv_at hl 1 rfl) ?_
    refine lv_icmp_ge (tgt := 178) hx hb dL_isBuilt_6 (by decide) (fun hc => ?_) (fun hc => ?_)
    · replace h := if_t h hc
      refine lv_aload_n hx hb dL_isBuilt_178 rfl (lv_at hl 0 rfl) ?_
      refine lv_iconst (v := 5) hx hb dL_isBuilt_179 (by decide) ?_
      obtain ⟨r102, hq101, h⟩ := bnd_some h
      refine r_callVI X.1 hl hH (As := [.int 5]) (rest := []) (c_X10_many l X.1.2.2.2.2.2.2.1 σ 5 _ hq101) (cw_V X.1 1 mw_537 mw_534 mw_535 mw_536 mw_2 rfl rfl (by decide +kernel) ⟨Nat.le_of_ble_eq_true rfl, Nat.le_of_ble_eq_true rfl⟩) (r_recv X.1 hH (by decide) rfl rfl) rfl rfl (Nat.le_of_ble_eq_true rfl) dL_isBuilt_180 ⟨Nat.zero_le _, Nat.zero_le _⟩ (fun H locs hH => ?_)
      refine lv_iload_n hx hb dL_isBuilt_183 rfl (lv_at hl 2 rfl) ?_
      refine lv_icmp_ne (tgt := 191) hx hb dL_isBuilt_184 (by decide) (fun hc => ?_) (fun hc => ?_)
      · replace h := if_f h hc
        refine lv_iconst (v := 0) hx hb dL_isBuilt_191 (by decide) ?_
        cases h
        exact e_int X hH rfl dL_isBuilt_192
      · replace h := if_t h hc
        refine lv_iconst (v := 1) hx hb dL_isBuilt_187 (by decide) ?_
        refine lv_goto (tgt := 192) hx hb dL_isBuilt_188 (by decide) ?_
        cases h
        exact e_int X hH rfl dL_isBuilt_192
    · replace h := if_f h hc
      refine lv_iconst (v := 0) hx hb dL_isBuilt_9 (by decide) ?_
      refine lv_istore (lv' := [(4, .int 0), (0, .ref (adr Γ 0)), (1, .int x1), (2, .int x2), (3, .int x3)]) hx hb dL_isBuilt_10 hl (by decide) rfl (fun ls hl => ?_)
      exact b_L_isBuilt_12 X x1 (m_L_isBuilt_4 x1 n) ih 1000 σ x2 x3 0 h _ _ _ hH (lv_sub hl [1, 2, 3, 4, 0] rfl)
/-- CutoffMillLaw.isBuilt(LCutoffMill;I)Z -/
def m_L_isBuilt (σ : Sg) (x1 : Int32) : Option (Sg × Int32) := m_L_isBuilt_4 x1 1000 σ 0 0
set_option maxHeartbeats 4000000 in
set_option maxRecDepth 100000 in
theorem c_L_isBuilt (l : Launch) {Γ : GG} (hJ : IJ Γ) (σ : Sg) (x1 : Int32) (σf : Sg) (rf : Int32) (h : m_L_isBuilt σ x1 = some (σf, rf)) : CI l yL_isBuilt (wy yL_isBuilt cL_isBuilt 6 (some .boolean)) { frames := 6, cells := 0, slots := 0, locals := 132 } Γ σ [.ref (adr Γ 0), .int x1] σf rf := by
  refine met_of (by decide +kernel) hJ (Nat.le_of_ble_eq_true rfl) (fun p e s m below meth c ls X hH hl => ?_)
  have hl : lv_has ls 6 [(0, .ref (adr Γ 0)), (1, .int x1)] := hl
  have hx := X.1.1
  have hb := X.1.2.1
  rw [m_L_isBuilt] at h
  refine lv_iconst (v := 0) hx hb dL_isBuilt_0 (by decide) ?_
  refine lv_istore_n (lv' := [(2, .int 0), (0, .ref (adr Γ 0)), (1, .int x1)]) hx hb dL_isBuilt_1 rfl hl (by decide) rfl (fun ls hl => ?_)
  refine lv_iconst (v := 0) hx hb dL_isBuilt_2 (by decide) ?_
  refine lv_istore_n (lv' := [(3, .int 0), (2, .int 0), (0, .ref (adr Γ 0)), (1, .int x1)]) hx hb dL_isBuilt_3 rfl hl (by decide) rfl (fun ls hl => ?_)
  exact b_L_isBuilt_4 X x1  1000 σ 0 0 h _ _ _ hH (lv_sub hl [2, 3, 1, 0] rfl)
def m_L_edit_93 (x1 : Int32) (x2 : Int32) (x3 : Int32)  (σ : Sg) (s0 : Int32) (x4 : Int32) : Option (Sg × Int32) := bnd (m_X10_ofModule σ x4 0) (fun r120 => if r120 = s0 then some (σ, 1) else some (σ, 0))
set_option maxHeartbeats 4000000 in
set_option maxRecDepth 100000 in
theorem b_L_edit_93 {p : Program} {l : Launch} {e : Env} {s : State} {m : MethodId} {args : Array Value} {below : List Frame} {meth : Method} {c : Code} {Γ : GG} (X : MB Γ p s m args meth c cL_edit 9 RL (some .boolean)) {σf : Sg} {rf : Int32} (x1 : Int32) (x2 : Int32) (x3 : Int32) : (∀ (σ : Sg) (s0 : Int32) (x4 : Int32), (m_L_edit_93 x1 x2 x3) σ s0 x4 = some (σf, rf) → ∀ (H : Heap) (locs : List Loc) (ls : Array Slot), HW (IA Γ) Γ σ s.heap H locs → lv_has ls 9 [(0, .ref (adr Γ 0)), (4, .int x4)] → W p l e ({ frames := 7, cells := 0, slots := 0, locals := 160 } : Room) s m args below meth c H locs 0 0 (QI Γ σf rf below args s) (F0 m 93 ls [.int s0])) := by
  have hx := X.1.1
  have hb := X.1.2.1
  intro σ s0 x4 h H locs ls hH hl
  rw [m_L_edit_93] at h
  refine lv_istore (lv' := [(8, .int s0), (0, .ref (adr Γ 0)), (4, .int x4)]) hx hb dL_edit_93 hl (by decide) rfl (fun ls hl => ?_)
  refine lv_aload_n hx hb dL_edit_95 rfl (lv_at hl 1 rfl) ?_
  refine lv_iload hx hb dL_edit_96 (lv_at hl 2 rfl) ?_
  refine lv_iconst (v := 0) hx hb dL_edit_98 (by decide) ?_
  obtain ⟨r120, hq119, h⟩ := bnd_some h
  refine r_callVI X.1 hl hH (As := [.int x4, .int 0]) (rest := []) (c_X10_ofModule l X.1.2.2.2.2.2.2.1 σ x4 0 _ hq119) (cw_V X.1 2 mw_255 mw_252 mw_253 mw_254 mw_2 rfl rfl (by decide +kernel) ⟨Nat.le_of_ble_eq_true rfl, Nat.le_of_ble_eq_true rfl⟩) (r_recv X.1 hH (by decide) rfl rfl) rfl rfl (Nat.le_of_ble_eq_true rfl) dL_edit_99 ⟨Nat.zero_le _, Nat.zero_le _⟩ (fun H locs hH => ?_)
  refine lv_iload hx hb dL_edit_102 (lv_at hl 0 rfl) ?_
  refine lv_icmp_ne (tgt := 111) hx hb dL_edit_104 (by decide) (fun hc => ?_) (fun hc => ?_)
  · replace h := if_f h hc
    refine lv_iconst (v := 0) hx hb dL_edit_111 (by decide) ?_
    cases h
    exact e_int X hH rfl dL_edit_112
  · replace h := if_t h hc
    refine lv_iconst (v := 1) hx hb dL_edit_107 (by decide) ?_
    refine lv_goto (tgt := 112) hx hb dL_edit_108 (by decide) ?_
    cases h
    exact e_int X hH rfl dL_edit_112
def m_L_edit_197 (x1 : Int32) (x2 : Int32) (x3 : Int32)  (σ : Sg) (s0 : Int32) (s1 : Int32) (s2 : Int32) (s3 : Int32) : Option (Sg × Int32) := bnd (m_L_below σ (x3 >>> ((3 : Int32) &&& 31)) 2) (fun r141 => if r141 = 0 then bnd2 (m_X10_bring σ s3 s2 s1 s0 1) (fun σ148 r147 => if r147 < 0 then some (σ148, 0) else some (σ148, 1)) else bnd2 (m_X10_bring σ s3 s2 s1 s0 0) (fun σ145 r144 => if r144 < 0 then some (σ145, 0) else some (σ145, 1)))
set_option maxHeartbeats 4000000 in
set_option maxRecDepth 100000 in
theorem b_L_edit_197 {p : Program} {l : Launch} {e : Env} {s : State} {m : MethodId} {args : Array Value} {below : List Frame} {meth : Method} {c : Code} {Γ : GG} (X : MB Γ p s m args meth c cL_edit 9 RL (some .boolean)) {σf : Sg} {rf : Int32} (x1 : Int32) (x2 : Int32) (x3 : Int32) : (∀ (σ : Sg) (s0 : Int32) (s1 : Int32) (s2 : Int32) (s3 : Int32), (m_L_edit_197 x1 x2 x3) σ s0 s1 s2 s3 = some (σf, rf) → ∀ (H : Heap) (locs : List Loc) (ls : Array Slot), HW (IA Γ) Γ σ s.heap H locs → lv_has ls 9 [(3, .int x3)] → W p l e ({ frames := 7, cells := 0, slots := 0, locals := 160 } : Room) s m args below meth c H locs 0 0 (QI Γ σf rf below args s) (F0 m 197 ls [.int s0, .int s1, .int s2, .int s3, .ref (adr Γ 0)])) := by
  have hx := X.1.1
  have hb := X.1.2.1
  intro σ s0 s1 s2 s3 h H locs ls hH hl
  rw [m_L_edit_197] at h
  refine lv_iload_n hx hb dL_edit_197 rfl (lv_at hl 0 rfl) ?_
  refine lv_iconst (v := 3) hx hb dL_edit_198 (by decide) ?_
  refine lv_ishr hx hb dL_edit_199 ?_
  refine lv_iconst (v := 2) hx hb dL_edit_200 (by decide) ?_
  obtain ⟨r141, hq140, h⟩ := bnd_some h
  refine r_callSI X.1 hl hH (As := [.int (x3 >>> ((3 : Int32) &&& 31)), .int 2]) (rest := [.int s0, .int s1, .int s2, .int s3, .ref (adr Γ 0)]) (c_L_below l X.1.2.2.2.2.2.2.1 σ (x3 >>> ((3 : Int32) &&& 31)) 2 _ hq140) (cw_S X.1 2 mw_129 mw_127 mw_128 mw_124 rfl rfl (by decide +kernel) ⟨Nat.le_of_ble_eq_true rfl, Nat.le_of_ble_eq_true rfl⟩) rfl rfl (Nat.le_of_ble_eq_true rfl) dL_edit_201 ⟨Nat.zero_le _, Nat.zero_le _⟩ (fun H locs hH => ?_)
  refine lv_if_ne (tgt := 211) hx hb dL_edit_204 (by decide) (fun hc => ?_) (fun hc => ?_)
  · replace h := if_f h hc
    refine lv_iconst (v := 0) hx hb dL_edit_211 (by decide) ?_
    obtain ⟨σ145, r144, hq143, h⟩ := bnd2_some h
    refine r_callVI X.1 hl hH (As := [.int s3, .int s2, .int s1, .int s0, .int 0]) (rest := []) (c_X10_bring l X.1.2.2.2.2.2.2.1 σ s3 s2 s1 s0 0 _ _ hq143) (cw_V X.1 5 mw_348 mw_345 mw_346 mw_347 mw_2 rfl rfl (by decide +kernel) ⟨Nat.le_of_ble_eq_true rfl, Nat.le_of_ble_eq_true rfl⟩) (r_recv X.1 hH (by decide) rfl rfl) rfl rfl (Nat.le_of_ble_eq_true rfl) dL_edit_212 ⟨Nat.zero_le _, Nat.zero_le _⟩ (fun H locs hH => ?_)
    refine lv_if_lt (tgt := 222) hx hb dL_edit_215 (by decide) (fun hc => ?_) (fun hc => ?_)
    · replace h := if_t h hc
      refine lv_iconst (v := 0) hx hb dL_edit_222 (by decide) ?_
      cases h
      exact e_int X hH rfl dL_edit_223
    · replace h := if_f h hc
      refine lv_iconst (v := 1) hx hb dL_edit_218 (by decide) ?_
      refine lv_goto (tgt := 223) hx hb dL_edit_219 (by decide) ?_
      cases h
      exact e_int X hH rfl dL_edit_223
  · replace h := if_t h hc
    refine lv_iconst (v := 1) hx hb dL_edit_207 (by decide) ?_
    refine lv_goto (tgt := 212) hx hb dL_edit_208 (by decide) ?_
    obtain ⟨σ148, r147, hq146, h⟩ := bnd2_some h
    refine r_callVI X.1 hl hH (As := [.int s3, .int s2, .int s1, .int s0, .int 1]) (rest := []) (c_X10_bring l X.1.2.2.2.2.2.2.1 σ s3 s2 s1 s0 1 _ _ hq146) (cw_V X.1 5 mw_348 mw_345 mw_346 mw_347 mw_2 rfl rfl (by decide +kernel) ⟨Nat.le_of_ble_eq_true rfl, Nat.le_of_ble_eq_true rfl⟩) (r_recv X.1 hH (by decide) rfl rfl) rfl rfl (Nat.le_of_ble_eq_true rfl) dL_edit_212 ⟨Nat.zero_le _, Nat.zero_le _⟩ (fun H locs hH => ?_)
    refine lv_if_lt (tgt := 222) hx hb dL_edit_215 (by decide) (fun hc => ?_) (fun hc => ?_)
    · replace h := if_t h hc
      refine lv_iconst (v := 0) hx hb dL_edit_222 (by decide) ?_
      cases h
      exact e_int X hH rfl dL_edit_223
    · replace h := if_f h hc
      refine lv_iconst (v := 1) hx hb dL_edit_218 (by decide) ?_
      refine lv_goto (tgt := 223) hx hb dL_edit_219 (by decide) ?_
      cases h
      exact e_int X hH rfl dL_edit_223
def m_L_edit_332 (x1 : Int32) (x2 : Int32) (x3 : Int32)  (σ : Sg) (s0 : Int32) (s1 : Int32) (s2 : Int32) (s3 : Int32) (s4 : Int32) (s5 : Int32) : Option (Sg × Int32) := bnd (m_L_below σ (x3 >>> ((10 : Int32) &&& 31)) 14) (fun r189 => if 0 ≤ (r189 - (6 : Int32)) then bnd (m_L_below σ (x3 >>> ((10 : Int32) &&& 31)) 14) (fun r192 => bnd2 (m_X10_declare σ s5 s4 s3 s2 s1 s0 (r192 - (6 : Int32))) (fun σ196 r195 => if r195 ≤ 0 then some (σ196, 0) else some (σ196, 1))) else bnd2 (m_X10_declare σ s5 s4 s3 s2 s1 s0 ((-1))) (fun σ199 r198 => if r198 ≤ 0 then some (σ199, 0) else some (σ199, 1)))
set_option maxHeartbeats 4000000 in
set_option maxRecDepth 100000 in
theorem b_L_edit_332 {p : Program} {l : Launch} {e : Env} {s : State} {m : MethodId} {args : Array Value} {below : List Frame} {meth : Method} {c : Code} {Γ : GG} (X : MB Γ p s m args meth c cL_edit 9 RL (some .boolean)) {σf : Sg} {rf : Int32} (x1 : Int32) (x2 : Int32) (x3 : Int32) : (∀ (σ : Sg) (s0 : Int32) (s1 : Int32) (s2 : Int32) (s3 : Int32) (s4 : Int32) (s5 : Int32), (m_L_edit_332 x1 x2 x3) σ s0 s1 s2 s3 s4 s5 = some (σf, rf) → ∀ (H : Heap) (locs : List Loc) (ls : Array Slot), HW (IA Γ) Γ σ s.heap H locs → lv_has ls 9 [(3, .int x3)] → W p l e ({ frames := 7, cells := 0, slots := 0, locals := 160 } : Room) s m args below meth c H locs 0 0 (QI Γ σf rf below args s) (F0 m 332 ls [.int s0, .int s1, .int s2, .int s3, .int s4, .int s5, .ref (adr Γ 0)])) := by
  have hx := X.1.1
  have hb := X.1.2.1
  intro σ s0 s1 s2 s3 s4 s5 h H locs ls hH hl
  rw [m_L_edit_332] at h
  refine lv_iload_n hx hb dL_edit_332 rfl (lv_at hl 0 rfl) ?_
  refine lv_bipush (v := 10) hx hb dL_edit_333 (by decide) ?_
  refine lv_ishr hx hb dL_edit_335 ?_
  refine lv_bipush (v := 14) hx hb dL_edit_336 (by decide) ?_
  obtain ⟨r189, hq188, h⟩ := bnd_some h
  refine r_callSI X.1 hl hH (As := [.int (x3 >>> ((10 : Int32) &&& 31)), .int 14]) (rest := [.int s0, .int s1, .int s2, .int s3, .int s4, .int s5, .ref (adr Γ 0)]) (c_L_below l X.1.2.2.2.2.2.2.1 σ (x3 >>> ((10 : Int32) &&& 31)) 14 _ hq188) (cw_S X.1 2 mw_129 mw_127 mw_128 mw_124 rfl rfl (by decide +kernel) ⟨Nat.le_of_ble_eq_true rfl, Nat.le_of_ble_eq_true rfl⟩) rfl rfl (Nat.le_of_ble_eq_true rfl) dL_edit_338 ⟨Nat.zero_le _, Nat.zero_le _⟩ (fun H locs hH => ?_)
  refine lv_bipush (v := 6) hx hb dL_edit_341 (by decide) ?_
  refine lv_isub hx hb dL_edit_343 ?_
  refine lv_if_ge (tgt := 351) hx hb dL_edit_344 (by decide) (fun hc => ?_) (fun hc => ?_)
  · replace h := if_t h hc
    refine lv_iload_n hx hb dL_edit_351 rfl (lv_at hl 0 rfl) ?_
    refine lv_bipush (v := 10) hx hb dL_edit_352 (by decide) ?_
    refine lv_ishr hx hb dL_edit_354 ?_
    refine lv_bipush (v := 14) hx hb dL_edit_355 (by decide) ?_
    obtain ⟨r192, hq191, h⟩ := bnd_some h
    refine r_callSI X.1 hl hH (As := [.int (x3 >>> ((10 : Int32) &&& 31)), .int 14]) (rest := [.int s0, .int s1, .int s2, .int s3, .int s4, .int s5, .ref (adr Γ 0)]) (c_L_below l X.1.2.2.2.2.2.2.1 σ (x3 >>> ((10 : Int32) &&& 31)) 14 _ hq191) (cw_S X.1 2 mw_129 mw_127 mw_128 mw_124 rfl rfl (by decide +kernel) ⟨Nat.le_of_ble_eq_true rfl, Nat.le_of_ble_eq_true rfl⟩) rfl rfl (Nat.le_of_ble_eq_true rfl) dL_edit_357 ⟨Nat.zero_le _, Nat.zero_le _⟩ (fun H locs hH => ?_)
    refine lv_bipush (v := 6) hx hb dL_edit_360 (by decide) ?_
    refine lv_isub hx hb dL_edit_362 ?_
    obtain ⟨σ196, r195, hq194, h⟩ := bnd2_some h
    refine r_callVI X.1 hl hH (As := [.int s5, .int s4, .int s3, .int s2, .int s1, .int s0, .int (r192 - (6 : Int32))]) (rest := []) (c_X10_declare l X.1.2.2.2.2.2.2.1 σ s5 s4 s3 s2 s1 s0 (r192 - (6 : Int32)) _ _ hq194) (cw_V X.1 7 mw_359 mw_356 mw_357 mw_358 mw_2 rfl rfl (by decide +kernel) ⟨Nat.le_of_ble_eq_true rfl, Nat.le_of_ble_eq_true rfl⟩) (r_recv X.1 hH (by decide) rfl rfl) rfl rfl (Nat.le_of_ble_eq_true rfl) dL_edit_363 ⟨Nat.zero_le _, Nat.zero_le _⟩ (fun H locs hH => ?_)
    refine lv_if_le (tgt := 373) hx hb dL_edit_366 (by decide) (fun hc => ?_) (fun hc => ?_)
    · replace h := if_t h hc
      refine lv_iconst (v := 0) hx hb dL_edit_373 (by decide) ?_
      cases h
      exact e_int X hH rfl dL_edit_374
    · replace h := if_f h hc
      refine lv_iconst (v := 1) hx hb dL_edit_369 (by decide) ?_
      refine lv_goto (tgt := 374) hx hb dL_edit_370 (by decide) ?_
      cases h
      exact e_int X hH rfl dL_edit_374
  · replace h := if_f h hc
    refine lv_iconst (v := (-1)) hx hb dL_edit_347 (by decide) ?_
    refine lv_goto (tgt := 363) hx hb dL_edit_348 (by decide) ?_
    obtain ⟨σ199, r198, hq197, h⟩ := bnd2_some h
    refine r_callVI X.1 hl hH (As := [.int s5, .int s4, .int s3, .int s2, .int s1, .int s0, .int ((-1))]) (rest := []) (c_X10_declare l X.1.2.2.2.2.2.2.1 σ s5 s4 s3 s2 s1 s0 ((-1)) _ _ hq197) (cw_V X.1 7 mw_359 mw_356 mw_357 mw_358 mw_2 rfl rfl (by decide +kernel) ⟨Nat.le_of_ble_eq_true rfl, Nat.le_of_ble_eq_true rfl⟩) (r_recv X.1 hH (by decide) rfl rfl) rfl rfl (Nat.le_of_ble_eq_true rfl) dL_edit_363 ⟨Nat.zero_le _, Nat.zero_le _⟩ (fun H locs hH => ?_)
    refine lv_if_le (tgt := 373) hx hb dL_edit_366 (by decide) (fun hc => ?_) (fun hc => ?_)
    · replace h := if_t h hc
      refine lv_iconst (v := 0) hx hb dL_edit_373 (by decide) ?_
      cases h
      exact e_int X hH rfl dL_edit_374
    · replace h := if_f h hc
      refine lv_iconst (v := 1) hx hb dL_edit_369 (by decide) ?_
      refine lv_goto (tgt := 374) hx hb dL_edit_370 (by decide) ?_
      cases h
      exact e_int X hH rfl dL_edit_374
def m_L_edit_291 (x1 : Int32) (x2 : Int32) (x3 : Int32)  (σ : Sg) (s0 : Int32) (s1 : Int32) (s2 : Int32) (s3 : Int32) : Option (Sg × Int32) := bnd (m_L_below σ (x2 >>> ((7 : Int32) &&& 31)) 31) (fun r180 => bnd (m_L_below σ (x3 >>> ((7 : Int32) &&& 31)) 10) (fun r183 => if 0 ≤ (r183 - (2 : Int32)) then bnd (m_L_below σ (x3 >>> ((7 : Int32) &&& 31)) 10) (fun r186 => m_L_edit_332 x1 x2 x3 σ (r186 - (2 : Int32)) (r180 - (15 : Int32)) s0 s1 s2 s3) else m_L_edit_332 x1 x2 x3 σ ((-1)) (r180 - (15 : Int32)) s0 s1 s2 s3))
set_option maxHeartbeats 4000000 in
set_option maxRecDepth 100000 in
theorem b_L_edit_291 {p : Program} {l : Launch} {e : Env} {s : State} {m : MethodId} {args : Array Value} {below : List Frame} {meth : Method} {c : Code} {Γ : GG} (X : MB Γ p s m args meth c cL_edit 9 RL (some .boolean)) {σf : Sg} {rf : Int32} (x1 : Int32) (x2 : Int32) (x3 : Int32) : (∀ (σ : Sg) (s0 : Int32) (s1 : Int32) (s2 : Int32) (s3 : Int32), (m_L_edit_291 x1 x2 x3) σ s0 s1 s2 s3 = some (σf, rf) → ∀ (H : Heap) (locs : List Loc) (ls : Array Slot), HW (IA Γ) Γ σ s.heap H locs → lv_has ls 9 [(2, .int x2), (3, .int x3)] → W p l e ({ frames := 7, cells := 0, slots := 0, locals := 160 } : Room) s m args below meth c H locs 0 0 (QI Γ σf rf below args s) (F0 m 291 ls [.int s0, .int s1, .int s2, .int s3, .ref (adr Γ 0)])) := by
  have hx := X.1.1
  have hb := X.1.2.1
  intro σ s0 s1 s2 s3 h H locs ls hH hl
  rw [m_L_edit_291] at h
  refine lv_iload_n hx hb dL_edit_291 rfl (lv_at hl 0 rfl) ?_
  refine lv_bipush (v := 7) hx hb dL_edit_292 (by decide) ?_
  refine lv_ishr hx hb dL_edit_294 ?_
  refine lv_bipush (v := 31) hx hb dL_edit_295 (by decide) ?_
  obtain ⟨r180, hq179, h⟩ := bnd_some h
  refine r_callSI X.1 hl hH (As := [.int (x2 >>> ((7 : Int32) &&& 31)), .int 31]) (rest := [.int s0, .int s1, .int s2, .int s3, .ref (adr Γ 0)]) (c_L_below l X.1.2.2.2.2.2.2.1 σ (x2 >>> ((7 : Int32) &&& 31)) 31 _ hq179) (cw_S X.1 2 mw_129 mw_127 mw_128 mw_124 rfl rfl (by decide +kernel) ⟨Nat.le_of_ble_eq_true rfl, Nat.le_of_ble_eq_true rfl⟩) rfl rfl (Nat.le_of_ble_eq_true rfl) dL_edit_297 ⟨Nat.zero_le _, Nat.zero_le _⟩ (fun H locs hH => ?_)
  refine lv_bipush (v := 15) hx hb dL_edit_300 (by decide) ?_
  refine lv_isub hx hb dL_edit_302 ?_
  refine lv_iload_n hx hb dL_edit_303 rfl (lv_at hl 1 rfl) ?_
  refine lv_bipush (v := 7) hx hb dL_edit_304 (by decide) ?_
  refine lv_ishr hx hb dL_edit_306 ?_
  refine lv_bipush (v := 10) hx hb dL_edit_307 (by decide) ?_
  obtain ⟨r183, hq182, h⟩ := bnd_some h
  refine r_callSI X.1 hl hH (As := [.int (x3 >>> ((7 : Int32) &&& 31)), .int 10]) (rest := [.int (r180 - (15 : Int32)), .int s0, .int s1, .int s2, .int s3, .ref (adr Γ 0)]) (c_L_below l X.1.2.2.2.2.2.2.1 σ (x3 >>> ((7 : Int32) &&& 31)) 10 _ hq182) (cw_S X.1 2 mw_129 mw_127 mw_128 mw_124 rfl rfl (by decide +kernel) ⟨Nat.le_of_ble_eq_true rfl, Nat.le_of_ble_eq_true rfl⟩) rfl rfl (Nat.le_of_ble_eq_true rfl) dL_edit_309 ⟨Nat.zero_le _, Nat.zero_le _⟩ (fun H locs hH => ?_)
  refine lv_iconst (v := 2) hx hb dL_edit_312 (by decide) ?_
  refine lv_isub hx hb dL_edit_313 ?_
  refine lv_if_ge (tgt := 321) hx hb dL_edit_314 (by decide) (fun hc => ?_) (fun hc => ?_)
  · replace h := if_t h hc
    refine lv_iload_n hx hb dL_edit_321 rfl (lv_at hl 1 rfl) ?_
    refine lv_bipush (v := 7) hx hb dL_edit_322 (by decide) ?_
    refine lv_ishr hx hb dL_edit_324 ?_
    refine lv_bipush (v := 10) hx hb dL_edit_325 (by decide) ?_
    obtain ⟨r186, hq185, h⟩ := bnd_some h
    refine r_callSI X.1 hl hH (As := [.int (x3 >>> ((7 : Int32) &&& 31)), .int 10]) (rest := [.int (r180 - (15 : Int32)), .int s0, .int s1, .int s2, .int s3, .ref (adr Γ 0)]) (c_L_below l X.1.2.2.2.2.2.2.1 σ (x3 >>> ((7 : Int32) &&& 31)) 10 _ hq185) (cw_S X.1 2 mw_129 mw_127 mw_128 mw_124 rfl rfl (by decide +kernel) ⟨Nat.le_of_ble_eq_true rfl, Nat.le_of_ble_eq_true rfl⟩) rfl rfl (Nat.le_of_ble_eq_true rfl) dL_edit_327 ⟨Nat.zero_le _, Nat.zero_le _⟩ (fun H locs hH => ?_)
    refine lv_iconst (v := 2) hx hb dL_edit_330 (by decide) ?_
    refine lv_isub hx hb dL_edit_331 ?_
    exact b_L_edit_332 X x1 x2 x3  σ (r186 - (2 : Int32)) (r180 - (15 : Int32)) s0 s1 s2 s3 h _ _ _ hH (lv_sub hl [1] rfl)
  · replace h := if_f h hc
    refine lv_iconst (v := (-1)) hx hb dL_edit_317 (by decide) ?_
    refine lv_goto (tgt := 332) hx hb dL_edit_318 (by decide) ?_
    exact b_L_edit_332 X x1 x2 x3  σ ((-1)) (r180 - (15 : Int32)) s0 s1 s2 s3 h _ _ _ hH (lv_sub hl [1] rfl)
def m_L_edit_252 (x1 : Int32) (x2 : Int32) (x3 : Int32)  (σ : Sg) (x4 : Int32) (x5 : Int32) : Option (Sg × Int32) := bnd (m_X10_ofModule σ x4 0) (fun r171 => if r171 = 6 then some (σ, 1) else bnd (m_L_below σ (x3 >>> ((4 : Int32) &&& 31)) 2) (fun r174 => bnd (m_L_below σ (x3 >>> ((5 : Int32) &&& 31)) 4) (fun r177 => if r177 ≤ 0 then m_L_edit_291 x1 x2 x3 σ 0 r174 x5 x4 else m_L_edit_291 x1 x2 x3 σ 1 r174 x5 x4)))
set_option maxHeartbeats 4000000 in
set_option maxRecDepth 100000 in
theorem b_L_edit_252 {p : Program} {l : Launch} {e : Env} {s : State} {m : MethodId} {args : Array Value} {below : List Frame} {meth : Method} {c : Code} {Γ : GG} (X : MB Γ p s m args meth c cL_edit 9 RL (some .boolean)) {σf : Sg} {rf : Int32} (x1 : Int32) (x2 : Int32) (x3 : Int32) : (∀ (σ : Sg) (x4 : Int32) (x5 : Int32), (m_L_edit_252 x1 x2 x3) σ x4 x5 = some (σf, rf) → ∀ (H : Heap) (locs : List Loc) (ls : Array Slot), HW (IA Γ) Γ σ s.heap H locs → lv_has ls 9 [(0, .ref (adr Γ 0)), (2, .int x2), (3, .int x3), (4, .int x4), (5, .int x5)] → W p l e ({ frames := 7, cells := 0, slots := 0, locals := 160 } : Room) s m args below meth c H locs 0 0 (QI Γ σf rf below args s) (F0 m 252 ls [])) := by
  have hx := X.1.1
  have hb := X.1.2.1
  intro σ x4 x5 h H locs ls hH hl
  rw [m_L_edit_252] at h
  refine lv_aload_n hx hb dL_edit_252 rfl (lv_at hl 0 rfl) ?_
  refine lv_iload hx hb dL_edit_253 (lv_at hl 3 rfl) ?_
  refine lv_iconst (v := 0) hx hb dL_edit_255 (by decide) ?_
  obtain ⟨r171, hq170, h⟩ := bnd_some h
  refine r_callVI X.1 hl hH (As := [.int x4, .int 0]) (rest := []) (c_X10_ofModule l X.1.2.2.2.2.2.2.1 σ x4 0 _ hq170) (cw_V X.1 2 mw_255 mw_252 mw_253 mw_254 mw_2 rfl rfl (by decide +kernel) ⟨Nat.le_of_ble_eq_true rfl, Nat.le_of_ble_eq_true rfl⟩) (r_recv X.1 hH (by decide) rfl rfl) rfl rfl (Nat.le_of_ble_eq_true rfl) dL_edit_256 ⟨Nat.zero_le _, Nat.zero_le _⟩ (fun H locs hH => ?_)
  refine lv_bipush (v := 6) hx hb dL_edit_259 (by decide) ?_
  refine lv_icmp_eq (tgt := 369) hx hb dL_edit_261 (by decide) (fun hc => ?_) (fun hc => ?_)
  · replace h := if_t h hc
    refine lv_iconst (v := 1) hx hb dL_edit_369 (by decide) ?_
    refine lv_goto (tgt := 374) hx hb dL_edit_370 (by decide) ?_
    cases h
    exact e_int X hH rfl dL_edit_374
  · replace h := if_f h hc
    refine lv_aload_n hx hb dL_edit_264 rfl (lv_at hl 0 rfl) ?_
    refine lv_iload hx hb dL_edit_265 (lv_at hl 3 rfl) ?_
    refine lv_iload hx hb dL_edit_267 (lv_at hl 4 rfl) ?_
    refine lv_iload_n hx hb dL_edit_269 rfl (lv_at hl 2 rfl) ?_
    refine lv_iconst (v := 4) hx hb dL_edit_270 (by decide) ?_
    refine lv_ishr hx hb dL_edit_271 ?_
    refine lv_iconst (v := 2) hx hb dL_edit_272 (by decide) ?_
    obtain ⟨r174, hq173, h⟩ := bnd_some h
    refine r_callSI X.1 hl hH (As := [.int (x3 >>> ((4 : Int32) &&& 31)), .int 2]) (rest := [.int x5, .int x4, .ref (adr Γ 0)]) (c_L_below l X.1.2.2.2.2.2.2.1 σ (x3 >>> ((4 : Int32) &&& 31)) 2 _ hq173) (cw_S X.1 2 mw_129 mw_127 mw_128 mw_124 rfl rfl (by decide +kernel) ⟨Nat.le_of_ble_eq_true rfl, Nat.le_of_ble_eq_true rfl⟩) rfl rfl (Nat.le_of_ble_eq_true rfl) dL_edit_273 ⟨Nat.zero_le _, Nat.zero_le _⟩ (fun H locs hH => ?_)
    refine lv_iload_n hx hb dL_edit_276 rfl (lv_at hl 2 rfl) ?_
    refine lv_iconst (v := 5) hx hb dL_edit_277 (by decide) ?_
    refine lv_ishr hx hb dL_edit_278 ?_
    refine lv_iconst (v := 4) hx hb dL_edit_279 (by decide) ?_
    obtain ⟨r177, hq176, h⟩ := bnd_some h
    refine r_callSI X.1 hl hH (As := [.int (x3 >>> ((5 : Int32) &&& 31)), .int 4]) (rest := [.int r174, .int x5, .int x4, .ref (adr Γ 0)]) (c_L_below l X.1.2.2.2.2.2.2.1 σ (x3 >>> ((5 : Int32) &&& 31)) 4 _ hq176) (cw_S X.1 2 mw_129 mw_127 mw_128 mw_124 rfl rfl (by decide +kernel) ⟨Nat.le_of_ble_eq_true rfl, Nat.le_of_ble_eq_true rfl⟩) rfl rfl (Nat.le_of_ble_eq_true rfl) dL_edit_280 ⟨Nat.zero_le _, Nat.zero_le _⟩ (fun H locs hH => ?_)
    refine lv_if_le (tgt := 290) hx hb dL_edit_283 (by decide) (fun hc => ?_) (fun hc => ?_)
    · replace h := if_t h hc
      refine lv_iconst (v := 0) hx hb dL_edit_290 (by decide) ?_
      exact b_L_edit_291 X x1 x2 x3  σ 0 r174 x5 x4 h _ _ _ hH (lv_sub hl [1, 2] rfl)
    · replace h := if_f h hc
      refine lv_iconst (v := 1) hx hb dL_edit_286 (by decide) ?_
      refine lv_goto (tgt := 291) hx hb dL_edit_287 (by decide) ?_
      exact b_L_edit_291 X x1 x2 x3  σ 1 r174 x5 x4 h _ _ _ hH (lv_sub hl [1, 2] rfl)
/-- CutoffMillLaw.edit(LCutoffMill;III)Z -/
def m_L_edit (σ : Sg) (x1 : Int32) (x2 : Int32) (x3 : Int32) : Option (Sg × Int32) := bnd (m_L_below σ x2 x1) (fun r102 => bnd (m_L_below σ x3 8) (fun r105 => bnd (m_L_below σ (x3 >>> ((6 : Int32) &&& 31)) 8) (fun r108 => bnd (m_L_below σ (x2 >>> ((3 : Int32) &&& 31)) 7) (fun r111 => if r111.toInt = 0 then bnd (m_X10_ofModule σ r102 0) (fun r114 => bnd2 (m_X10_drop σ r102 r105) (fun σ118 r117 => if r117 = 0 then m_L_edit_93 x1 x2 x3 σ118 r114 r102 else m_L_edit_93 x1 x2 x3 σ118 (r114 - (1 : Int32)) r102)) else if r111.toInt = 1 then bnd (m_X10_ofModule σ r102 1) (fun r123 => if r123 = 0 then some (σ, 1) else bnd2 (m_X10_leave σ r102 0) (fun σ127 r126 => if r126 < 0 then some (σ127, 0) else some (σ127, 1))) else if r111.toInt = 2 then if r108 = r102 then some (σ, 1) else bnd (m_X10_ofModule σ r102 1) (fun r129 => if r129 = 5 then some (σ, 1) else bnd (m_L_below σ x3 3) (fun r132 => if r132 = 0 then bnd (m_L_below σ x3 3) (fun r150 => if r150 = 0 then m_L_edit_197 x1 x2 x3 σ 0 ((-1)) r108 r102 else m_L_edit_197 x1 x2 x3 σ r105 ((-1)) r108 r102) else bnd (m_L_below σ (x3 >>> ((9 : Int32) &&& 31)) 8) (fun r135 => bnd (m_L_below σ x3 3) (fun r138 => if r138 = 0 then m_L_edit_197 x1 x2 x3 σ 0 r135 r108 r102 else m_L_edit_197 x1 x2 x3 σ r105 r135 r108 r102)))) else if r111.toInt = 3 then if r108 = r102 then some (σ, 1) else bnd (m_X10_ofModule σ r102 1) (fun r153 => if r153 = 5 then some (σ, 1) else bnd (m_L_below σ x3 3) (fun r156 => if r156 = 0 then bnd (m_L_below σ x3 3) (fun r165 => if r165 = 0 then m_L_edit_197 x1 x2 x3 σ 0 ((-1)) r108 r102 else m_L_edit_197 x1 x2 x3 σ r105 ((-1)) r108 r102) else bnd (m_L_below σ (x3 >>> ((9 : Int32) &&& 31)) 8) (fun r159 => bnd (m_L_below σ x3 3) (fun r162 => if r162 = 0 then m_L_edit_197 x1 x2 x3 σ 0 r159 r108 r102 else m_L_edit_197 x1 x2 x3 σ r105 r159 r108 r102)))) else bnd (m_X10_ofModule σ r102 0) (fun r168 => if r168 = 6 then bnd (m_L_below σ (x3 >>> ((11 : Int32) &&& 31)) 8) (fun r201 => bnd2 (m_X10_drop σ r102 r201) (fun σ205 r204 => m_L_edit_252 x1 x2 x3 σ205 r102 r105)) else m_L_edit_252 x1 x2 x3 σ r102 r105)))))
set_option maxHeartbeats 4000000 in
set_option maxRecDepth 100000 in
theorem c_L_edit (l : Launch) {Γ : GG} (hJ : IJ Γ) (σ : Sg) (x1 : Int32) (x2 : Int32) (x3 : Int32) (σf : Sg) (rf : Int32) (h : m_L_edit σ x1 x2 x3 = some (σf, rf)) : CI l yL_edit (wy yL_edit cL_edit 9 (some .boolean)) { frames := 7, cells := 0, slots := 0, locals := 160 } Γ σ [.ref (adr Γ 0), .int x1, .int x2, .int x3] σf rf := by
  refine met_of (by decide +kernel) hJ (Nat.le_of_ble_eq_true rfl) (fun p e s m below meth c ls X hH hl => ?_)
  have hl : lv_has ls 9 [(0, .ref (adr Γ 0)), (1, .int x1), (2, .int x2), (3, .int x3)] := hl
  have hx := X.1.1
  have hb := X.1.2.1
  rw [m_L_edit] at h
  refine lv_iload_n hx hb dL_edit_0 rfl (lv_at hl 2 rfl) ?_
  refine lv_iload_n hx hb dL_edit_1 rfl (lv_at hl 1 rfl) ?_
  obtain ⟨r102, hq101, h⟩ := bnd_some h
  refine r_callSI X.1 hl hH (As := [.int x2, .int x1]) (rest := []) (c_L_below l X.1.2.2.2.2.2.2.1 σ x2 x1 _ hq101) (cw_S X.1 2 mw_129 mw_127 mw_128 mw_124 rfl rfl (by decide +kernel) ⟨Nat.le_of_ble_eq_true rfl, Nat.le_of_ble_eq_true rfl⟩) rfl rfl (Nat.le_of_ble_eq_true rfl) dL_edit_2 ⟨Nat.zero_le _, Nat.zero_le _⟩ (fun H locs hH => ?_)
  refine lv_istore (lv' := [(4, .int r102), (0, .ref (adr Γ 0)), (1, .int x1), (2, .int x2), (3, .int x3)]) hx hb dL_edit_5 hl (by decide) rfl (fun ls hl => ?_)
  refine lv_iload_n hx hb dL_edit_7 rfl (lv_at hl 4 rfl) ?_
  refine lv_bipush (v := 8) hx hb dL_edit_8 (by decide) ?_
  obtain ⟨r105, hq104, h⟩ := bnd_some h
  refine r_callSI X.1 hl hH (As := [.int x3, .int 8]) (rest := []) (c_L_below l X.1.2.2.2.2.2.2.1 σ x3 8 _ hq104) (cw_S X.1 2 mw_129 mw_127 mw_128 mw_124 rfl rfl (by decide +kernel) ⟨Nat.le_of_ble_eq_true rfl, Nat.le_of_ble_eq_true rfl⟩) rfl rfl (Nat.le_of_ble_eq_true rfl) dL_edit_10 ⟨Nat.zero_le _, Nat.zero_le _⟩ (fun H locs hH => ?_)
  refine lv_istore (lv' := [(5, .int r105), (4, .int r102), (0, .ref (adr Γ 0)), (1, .int x1), (2, .int x2), (3, .int x3)]) hx hb dL_edit_13 hl (by decide) rfl (fun ls hl => ?_)
  refine lv_iload_n hx hb dL_edit_15 rfl (lv_at hl 5 rfl) ?_
  refine lv_bipush (v := 6) hx hb dL_edit_16 (by decide) ?_
  refine lv_ishr hx hb dL_edit_18 ?_
  refine lv_bipush (v := 8) hx hb dL_edit_19 (by decide) ?_
  obtain ⟨r108, hq107, h⟩ := bnd_some h
  refine r_callSI X.1 hl hH (As := [.int (x3 >>> ((6 : Int32) &&& 31)), .int 8]) (rest := []) (c_L_below l X.1.2.2.2.2.2.2.1 σ (x3 >>> ((6 : Int32) &&& 31)) 8 _ hq107) (cw_S X.1 2 mw_129 mw_127 mw_128 mw_124 rfl rfl (by decide +kernel) ⟨Nat.le_of_ble_eq_true rfl, Nat.le_of_ble_eq_true rfl⟩) rfl rfl (Nat.le_of_ble_eq_true rfl) dL_edit_21 ⟨Nat.zero_le _, Nat.zero_le _⟩ (fun H locs hH => ?_)
  refine lv_istore (lv' := [(6, .int r108), (5, .int r105), (4, .int r102), (0, .ref (adr Γ 0)), (1, .int x1), (2, .int x2), (3, .int x3)]) hx hb dL_edit_24 hl (by decide) rfl (fun ls hl => ?_)
  refine lv_iload_n hx hb dL_edit_26 rfl (lv_at hl 5 rfl) ?_
  refine lv_iconst (v := 3) hx hb dL_edit_27 (by decide) ?_
  refine lv_ishr hx hb dL_edit_28 ?_
  refine lv_bipush (v := 7) hx hb dL_edit_29 (by decide) ?_
  obtain ⟨r111, hq110, h⟩ := bnd_some h
  refine r_callSI X.1 hl hH (As := [.int (x2 >>> ((3 : Int32) &&& 31)), .int 7]) (rest := []) (c_L_below l X.1.2.2.2.2.2.2.1 σ (x2 >>> ((3 : Int32) &&& 31)) 7 _ hq110) (cw_S X.1 2 mw_129 mw_127 mw_128 mw_124 rfl rfl (by decide +kernel) ⟨Nat.le_of_ble_eq_true rfl, Nat.le_of_ble_eq_true rfl⟩) rfl rfl (Nat.le_of_ble_eq_true rfl) dL_edit_31 ⟨Nat.zero_le _, Nat.zero_le _⟩ (fun H locs hH => ?_)
  by_cases hc : r111.toInt = 0
  · replace h := if_t h hc
    refine lv_tableIn (tgt := 64) hx hb dL_edit_34 (by rw [hc]; decide) (by rw [hc]; decide) (by rw [hc]; rfl) (by decide) ?_
    refine lv_aload_n hx hb dL_edit_64 rfl (lv_at hl 3 rfl) ?_
    refine lv_iload hx hb dL_edit_65 (lv_at hl 2 rfl) ?_
    refine lv_iconst (v := 0) hx hb dL_edit_67 (by decide) ?_
    obtain ⟨r114, hq113, h⟩ := bnd_some h
    refine r_callVI X.1 hl hH (As := [.int r102, .int 0]) (rest := []) (c_X10_ofModule l X.1.2.2.2.2.2.2.1 σ r102 0 _ hq113) (cw_V X.1 2 mw_255 mw_252 mw_253 mw_254 mw_2 rfl rfl (by decide +kernel) ⟨Nat.le_of_ble_eq_true rfl, Nat.le_of_ble_eq_true rfl⟩) (r_recv X.1 hH (by decide) rfl rfl) rfl rfl (Nat.le_of_ble_eq_true rfl) dL_edit_68 ⟨Nat.zero_le _, Nat.zero_le _⟩ (fun H locs hH => ?_)
    refine lv_istore (lv' := [(7, .int r114), (6, .int r108), (5, .int r105), (4, .int r102), (0, .ref (adr Γ 0)), (1, .int x1), (2, .int x2), (3, .int x3)]) hx hb dL_edit_71 hl (by decide) rfl (fun ls hl => ?_)
    refine lv_aload_n hx hb dL_edit_73 rfl (lv_at hl 4 rfl) ?_
    refine lv_iload hx hb dL_edit_74 (lv_at hl 3 rfl) ?_
    refine lv_iload hx hb dL_edit_76 (lv_at hl 2 rfl) ?_
    obtain ⟨σ118, r117, hq116, h⟩ := bnd2_some h
    refine r_callVI X.1 hl hH (As := [.int r102, .int r105]) (rest := []) (c_X10_drop l X.1.2.2.2.2.2.2.1 σ r102 r105 _ _ hq116) (cw_V X.1 2 mw_334 mw_331 mw_332 mw_333 mw_2 rfl rfl (by decide +kernel) ⟨Nat.le_of_ble_eq_true rfl, Nat.le_of_ble_eq_true rfl⟩) (r_recv X.1 hH (by decide) rfl rfl) rfl rfl (Nat.le_of_ble_eq_true rfl) dL_edit_78 ⟨Nat.zero_le _, Nat.zero_le _⟩ (fun H locs hH => ?_)
    refine lv_if_eq (tgt := 91) hx hb dL_edit_81 (by decide) (fun hc => ?_) (fun hc => ?_)
    · replace h := if_t h hc
      refine lv_iload hx hb dL_edit_91 (lv_at hl 0 rfl) ?_
      exact b_L_edit_93 X x1 x2 x3  σ118 r114 r102 h _ _ _ hH (lv_sub hl [4, 3] rfl)
    · replace h := if_f h hc
      refine lv_iload hx hb dL_edit_84 (lv_at hl 0 rfl) ?_
      refine lv_iconst (v := 1) hx hb dL_edit_86 (by decide) ?_
      refine lv_isub hx hb dL_edit_87 ?_
      refine lv_goto (tgt := 93) hx hb dL_edit_88 (by decide) ?_
      exact b_L_edit_93 X x1 x2 x3  σ118 (r114 - (1 : Int32)) r102 h _ _ _ hH (lv_sub hl [4, 3] rfl)
  · replace h := if_f h hc
    have hn0 := hc
    by_cases hc : r111.toInt = 1
    · replace h := if_t h hc
      refine lv_tableIn (tgt := 113) hx hb dL_edit_34 (by rw [hc]; decide) (by rw [hc]; decide) (by rw [hc]; rfl) (by decide) ?_
      refine lv_aload_n hx hb dL_edit_113 rfl (lv_at hl 3 rfl) ?_
      refine lv_iload hx hb dL_edit_114 (lv_at hl 2 rfl) ?_
      refine lv_iconst (v := 1) hx hb dL_edit_116 (by decide) ?_
      obtain ⟨r123, hq122, h⟩ := bnd_some h
      refine r_callVI X.1 hl hH (As := [.int r102, .int 1]) (rest := []) (c_X10_ofModule l X.1.2.2.2.2.2.2.1 σ r102 1 _ hq122) (cw_V X.1 2 mw_255 mw_252 mw_253 mw_254 mw_2 rfl rfl (by decide +kernel) ⟨Nat.le_of_ble_eq_true rfl, Nat.le_of_ble_eq_true rfl⟩) (r_recv X.1 hH (by decide) rfl rfl) rfl rfl (Nat.le_of_ble_eq_true rfl) dL_edit_117 ⟨Nat.zero_le _, Nat.zero_le _⟩ (fun H locs hH => ?_)
      refine lv_if_eq (tgt := 133) hx hb dL_edit_120 (by decide) (fun hc => ?_) (fun hc => ?_)
      · replace h := if_t h hc
        refine lv_iconst (v := 1) hx hb dL_edit_133 (by decide) ?_
        refine lv_goto (tgt := 138) hx hb dL_edit_134 (by decide) ?_
        cases h
        exact e_int X hH rfl dL_edit_138
      · replace h := if_f h hc
        refine lv_aload_n hx hb dL_edit_123 rfl (lv_at hl 3 rfl) ?_
        refine lv_iload hx hb dL_edit_124 (lv_at hl 2 rfl) ?_
        refine lv_iconst (v := 0) hx hb dL_edit_126 (by decide) ?_
        obtain ⟨σ127, r126, hq125, h⟩ := bnd2_some h
        refine r_callVI X.1 hl hH (As := [.int r102, .int 0]) (rest := []) (c_X10_leave l X.1.2.2.2.2.2.2.1 σ r102 0 _ _ hq125) (cw_V X.1 2 mw_340 mw_337 mw_338 mw_339 mw_2 rfl rfl (by decide +kernel) ⟨Nat.le_of_ble_eq_true rfl, Nat.le_of_ble_eq_true rfl⟩) (r_recv X.1 hH (by decide) rfl rfl) rfl rfl (Nat.le_of_ble_eq_true rfl) dL_edit_127 ⟨Nat.zero_le _, Nat.zero_le _⟩ (fun H locs hH => ?_)
        refine lv_if_lt (tgt := 137) hx hb dL_edit_130 (by decide) (fun hc => ?_) (fun hc => ?_)
        · replace h := if_t h hc
          refine lv_iconst (v := 0) hx hb dL_edit_137 (by decide) ?_
          cases h
          exact e_int X hH rfl dL_edit_138
        · replace h := if_f h hc
          refine lv_iconst (v := 1) hx hb dL_edit_133 (by decide) ?_
          refine lv_goto (tgt := 138) hx hb dL_edit_134 (by decide) ?_
          cases h
          exact e_int X hH rfl dL_edit_138
    · replace h := if_f h hc
      have hn1 := hc
      by_cases hc : r111.toInt = 2
      · replace h := if_t h hc
        refine lv_tableIn (tgt := 139) hx hb dL_edit_34 (by rw [hc]; decide) (by rw [hc]; decide) (by rw [hc]; rfl) (by decide) ?_
        refine lv_iload hx hb dL_edit_139 (lv_at hl 0 rfl) ?_
        refine lv_iload hx hb dL_edit_141 (lv_at hl 2 rfl) ?_
        refine lv_icmp_eq (tgt := 218) hx hb dL_edit_143 (by decide) (fun hc => ?_) (fun hc => ?_)
        · replace h := if_t h hc
          refine lv_iconst (v := 1) hx hb dL_edit_218 (by decide) ?_
          refine lv_goto (tgt := 223) hx hb dL_edit_219 (by decide) ?_
          cases h
          exact e_int X hH rfl dL_edit_223
        · replace h := if_f h hc
          refine lv_aload_n hx hb dL_edit_146 rfl (lv_at hl 3 rfl) ?_
          refine lv_iload hx hb dL_edit_147 (lv_at hl 2 rfl) ?_
          refine lv_iconst (v := 1) hx hb dL_edit_149 (by decide) ?_
          obtain ⟨r129, hq128, h⟩ := bnd_some h
          refine r_callVI X.1 hl hH (As := [.int r102, .int 1]) (rest := []) (c_X10_ofModule l X.1.2.2.2.2.2.2.1 σ r102 1 _ hq128) (cw_V X.1 2 mw_255 mw_252 mw_253 mw_254 mw_2 rfl rfl (by decide +kernel) ⟨Nat.le_of_ble_eq_true rfl, Nat.le_of_ble_eq_true rfl⟩) (r_recv X.1 hH (by decide) rfl rfl) rfl rfl (Nat.le_of_ble_eq_true rfl) dL_edit_150 ⟨Nat.zero_le _, Nat.zero_le _⟩ (fun H locs hH => ?_)
          refine lv_iconst (v := 5) hx hb dL_edit_153 (by decide) ?_
          refine lv_icmp_eq (tgt := 218) hx hb dL_edit_154 (by decide) (fun hc => ?_) (fun hc => ?_)
          · replace h := if_t h hc
            refine lv_iconst (v := 1) hx hb dL_edit_218 (by decide) ?_
            refine lv_goto (tgt := 223) hx hb dL_edit_219 (by decide) ?_
            cases h
            exact e_int X hH rfl dL_edit_223
          · replace h := if_f h hc
            refine lv_aload_n hx hb dL_edit_157 rfl (lv_at hl 3 rfl) ?_
            refine lv_iload hx hb dL_edit_158 (lv_at hl 2 rfl) ?_
            refine lv_iload hx hb dL_edit_160 (lv_at hl 0 rfl) ?_
            refine lv_iload_n hx hb dL_edit_162 rfl (lv_at hl 6 rfl) ?_
            refine lv_iconst (v := 3) hx hb dL_edit_163 (by decide) ?_
            obtain ⟨r132, hq131, h⟩ := bnd_some h
            refine r_callSI X.1 hl hH (As := [.int x3, .int 3]) (rest := [.int r108, .int r102, .ref (adr Γ 0)]) (c_L_below l X.1.2.2.2.2.2.2.1 σ x3 3 _ hq131) (cw_S X.1 2 mw_129 mw_127 mw_128 mw_124 rfl rfl (by decide +kernel) ⟨Nat.le_of_ble_eq_true rfl, Nat.le_of_ble_eq_true rfl⟩) rfl rfl (Nat.le_of_ble_eq_true rfl) dL_edit_164 ⟨Nat.zero_le _, Nat.zero_le _⟩ (fun H locs hH => ?_)
            refine lv_if_ne (tgt := 174) hx hb dL_edit_167 (by decide) (fun hc => ?_) (fun hc => ?_)
            · replace h := if_f h hc
              refine lv_iload_n hx hb dL_edit_174 rfl (lv_at hl 6 rfl) ?_
              refine lv_bipush (v := 9) hx hb dL_edit_175 (by decide) ?_
              refine lv_ishr hx hb dL_edit_177 ?_
              refine lv_bipush (v := 8) hx hb dL_edit_178 (by decide) ?_
              obtain ⟨r135, hq134, h⟩ := bnd_some h
              refine r_callSI X.1 hl hH (As := [.int (x3 >>> ((9 : Int32) &&& 31)), .int 8]) (rest := [.int r108, .int r102, .ref (adr Γ 0)]) (c_L_below l X.1.2.2.2.2.2.2.1 σ (x3 >>> ((9 : Int32) &&& 31)) 8 _ hq134) (cw_S X.1 2 mw_129 mw_127 mw_128 mw_124 rfl rfl (by decide +kernel) ⟨Nat.le_of_ble_eq_true rfl, Nat.le_of_ble_eq_true rfl⟩) rfl rfl (Nat.le_of_ble_eq_true rfl) dL_edit_180 ⟨Nat.zero_le _, Nat.zero_le _⟩ (fun H locs hH => ?_)
              refine lv_iload_n hx hb dL_edit_183 rfl (lv_at hl 6 rfl) ?_
              refine lv_iconst (v := 3) hx hb dL_edit_184 (by decide) ?_
              obtain ⟨r138, hq137, h⟩ := bnd_some h
              refine r_callSI X.1 hl hH (As := [.int x3, .int 3]) (rest := [.int r135, .int r108, .int r102, .ref (adr Γ 0)]) (c_L_below l X.1.2.2.2.2.2.2.1 σ x3 3 _ hq137) (cw_S X.1 2 mw_129 mw_127 mw_128 mw_124 rfl rfl (by decide +kernel) ⟨Nat.le_of_ble_eq_true rfl, Nat.le_of_ble_eq_true rfl⟩) rfl rfl (Nat.le_of_ble_eq_true rfl) dL_edit_185 ⟨Nat.zero_le _, Nat.zero_le _⟩ (fun H locs hH => ?_)
              refine lv_if_ne (tgt := 195) hx hb dL_edit_188 (by decide) (fun hc => ?_) (fun hc => ?_)
              · replace h := if_f h hc
                refine lv_iload hx hb dL_edit_195 (lv_at hl 1 rfl) ?_
                exact b_L_edit_197 X x1 x2 x3  σ r105 r135 r108 r102 h _ _ _ hH (lv_sub hl [6] rfl)
              · replace h := if_t h hc
                refine lv_iconst (v := 0) hx hb dL_edit_191 (by decide) ?_
                refine lv_goto (tgt := 197) hx hb dL_edit_192 (by decide) ?_
                exact b_L_edit_197 X x1 x2 x3  σ 0 r135 r108 r102 h _ _ _ hH (lv_sub hl [6] rfl)
            · replace h := if_t h hc
              refine lv_iconst (v := (-1)) hx hb dL_edit_170 (by decide) ?_
              refine lv_goto (tgt := 183) hx hb dL_edit_171 (by decide) ?_
              refine lv_iload_n hx hb dL_edit_183 rfl (lv_at hl 6 rfl) ?_
              refine lv_iconst (v := 3) hx hb dL_edit_184 (by decide) ?_
              obtain ⟨r150, hq149, h⟩ := bnd_some h
              refine r_callSI X.1 hl hH (As := [.int x3, .int 3]) (rest := [.int ((-1)), .int r108, .int r102, .ref (adr Γ 0)]) (c_L_below l X.1.2.2.2.2.2.2.1 σ x3 3 _ hq149) (cw_S X.1 2 mw_129 mw_127 mw_128 mw_124 rfl rfl (by decide +kernel) ⟨Nat.le_of_ble_eq_true rfl, Nat.le_of_ble_eq_true rfl⟩) rfl rfl (Nat.le_of_ble_eq_true rfl) dL_edit_185 ⟨Nat.zero_le _, Nat.zero_le _⟩ (fun H locs hH => ?_)
              refine lv_if_ne (tgt := 195) hx hb dL_edit_188 (by decide) (fun hc => ?_) (fun hc => ?_)
              · replace h := if_f h hc
                refine lv_iload hx hb dL_edit_195 (lv_at hl 1 rfl) ?_
                exact b_L_edit_197 X x1 x2 x3  σ r105 ((-1)) r108 r102 h _ _ _ hH (lv_sub hl [6] rfl)
              · replace h := if_t h hc
                refine lv_iconst (v := 0) hx hb dL_edit_191 (by decide) ?_
                refine lv_goto (tgt := 197) hx hb dL_edit_192 (by decide) ?_
                exact b_L_edit_197 X x1 x2 x3  σ 0 ((-1)) r108 r102 h _ _ _ hH (lv_sub hl [6] rfl)
      · replace h := if_f h hc
        have hn2 := hc
        by_cases hc : r111.toInt = 3
        · replace h := if_t h hc
          refine lv_tableIn (tgt := 139) hx hb dL_edit_34 (by rw [hc]; decide) (by rw [hc]; decide) (by rw [hc]; rfl) (by decide) ?_
          refine lv_iload hx hb dL_edit_139 (lv_at hl 0 rfl) ?_
          refine lv_iload hx hb dL_edit_141 (lv_at hl 2 rfl) ?_
          refine lv_icmp_eq (tgt := 218) hx hb dL_edit_143 (by decide) (fun hc => ?_) (fun hc => ?_)
          · replace h := if_t h hc
            refine lv_iconst (v := 1) hx hb dL_edit_218 (by decide) ?_
            refine lv_goto (tgt := 223) hx hb dL_edit_219 (by decide) ?_
            cases h
            exact e_int X hH rfl dL_edit_223
          · replace h := if_f h hc
            refine lv_aload_n hx hb dL_edit_146 rfl (lv_at hl 3 rfl) ?_
            refine lv_iload hx hb dL_edit_147 (lv_at hl 2 rfl) ?_
            refine lv_iconst (v := 1) hx hb dL_edit_149 (by decide) ?_
            obtain ⟨r153, hq152, h⟩ := bnd_some h
            refine r_callVI X.1 hl hH (As := [.int r102, .int 1]) (rest := []) (c_X10_ofModule l X.1.2.2.2.2.2.2.1 σ r102 1 _ hq152) (cw_V X.1 2 mw_255 mw_252 mw_253 mw_254 mw_2 rfl rfl (by decide +kernel) ⟨Nat.le_of_ble_eq_true rfl, Nat.le_of_ble_eq_true rfl⟩) (r_recv X.1 hH (by decide) rfl rfl) rfl rfl (Nat.le_of_ble_eq_true rfl) dL_edit_150 ⟨Nat.zero_le _, Nat.zero_le _⟩ (fun H locs hH => ?_)
            refine lv_iconst (v := 5) hx hb dL_edit_153 (by decide) ?_
            refine lv_icmp_eq (tgt := 218) hx hb dL_edit_154 (by decide) (fun hc => ?_) (fun hc => ?_)
            · replace h := if_t h hc
              refine lv_iconst (v := 1) hx hb dL_edit_218 (by decide) ?_
              refine lv_goto (tgt := 223) hx hb dL_edit_219 (by decide) ?_
              cases h
              exact e_int X hH rfl dL_edit_223
            · replace h := if_f h hc
              refine lv_aload_n hx hb dL_edit_157 rfl (lv_at hl 3 rfl) ?_
              refine lv_iload hx hb dL_edit_158 (lv_at hl 2 rfl) ?_
              refine lv_iload hx hb dL_edit_160 (lv_at hl 0 rfl) ?_
              refine lv_iload_n hx hb dL_edit_162 rfl (lv_at hl 6 rfl) ?_
              refine lv_iconst (v := 3) hx hb dL_edit_163 (by decide) ?_
              obtain ⟨r156, hq155, h⟩ := bnd_some h
              refine r_callSI X.1 hl hH (As := [.int x3, .int 3]) (rest := [.int r108, .int r102, .ref (adr Γ 0)]) (c_L_below l X.1.2.2.2.2.2.2.1 σ x3 3 _ hq155) (cw_S X.1 2 mw_129 mw_127 mw_128 mw_124 rfl rfl (by decide +kernel) ⟨Nat.le_of_ble_eq_true rfl, Nat.le_of_ble_eq_true rfl⟩) rfl rfl (Nat.le_of_ble_eq_true rfl) dL_edit_164 ⟨Nat.zero_le _, Nat.zero_le _⟩ (fun H locs hH => ?_)
              refine lv_if_ne (tgt := 174) hx hb dL_edit_167 (by decide) (fun hc => ?_) (fun hc => ?_)
              · replace h := if_f h hc
                refine lv_iload_n hx hb dL_edit_174 rfl (lv_at hl 6 rfl) ?_
                refine lv_bipush (v := 9) hx hb dL_edit_175 (by decide) ?_
                refine lv_ishr hx hb dL_edit_177 ?_
                refine lv_bipush (v := 8) hx hb dL_edit_178 (by decide) ?_
                obtain ⟨r159, hq158, h⟩ := bnd_some h
                refine r_callSI X.1 hl hH (As := [.int (x3 >>> ((9 : Int32) &&& 31)), .int 8]) (rest := [.int r108, .int r102, .ref (adr Γ 0)]) (c_L_below l X.1.2.2.2.2.2.2.1 σ (x3 >>> ((9 : Int32) &&& 31)) 8 _ hq158) (cw_S X.1 2 mw_129 mw_127 mw_128 mw_124 rfl rfl (by decide +kernel) ⟨Nat.le_of_ble_eq_true rfl, Nat.le_of_ble_eq_true rfl⟩) rfl rfl (Nat.le_of_ble_eq_true rfl) dL_edit_180 ⟨Nat.zero_le _, Nat.zero_le _⟩ (fun H locs hH => ?_)
                refine lv_iload_n hx hb dL_edit_183 rfl (lv_at hl 6 rfl) ?_
                refine lv_iconst (v := 3) hx hb dL_edit_184 (by decide) ?_
                obtain ⟨r162, hq161, h⟩ := bnd_some h
                refine r_callSI X.1 hl hH (As := [.int x3, .int 3]) (rest := [.int r159, .int r108, .int r102, .ref (adr Γ 0)]) (c_L_below l X.1.2.2.2.2.2.2.1 σ x3 3 _ hq161) (cw_S X.1 2 mw_129 mw_127 mw_128 mw_124 rfl rfl (by decide +kernel) ⟨Nat.le_of_ble_eq_true rfl, Nat.le_of_ble_eq_true rfl⟩) rfl rfl (Nat.le_of_ble_eq_true rfl) dL_edit_185 ⟨Nat.zero_le _, Nat.zero_le _⟩ (fun H locs hH => ?_)
                refine lv_if_ne (tgt := 195) hx hb dL_edit_188 (by decide) (fun hc => ?_) (fun hc => ?_)
                · replace h := if_f h hc
                  refine lv_iload hx hb dL_edit_195 (lv_at hl 1 rfl) ?_
                  exact b_L_edit_197 X x1 x2 x3  σ r105 r159 r108 r102 h _ _ _ hH (lv_sub hl [6] rfl)
                · replace h := if_t h hc
                  refine lv_iconst (v := 0) hx hb dL_edit_191 (by decide) ?_
                  refine lv_goto (tgt := 197) hx hb dL_edit_192 (by decide) ?_
                  exact b_L_edit_197 X x1 x2 x3  σ 0 r159 r108 r102 h _ _ _ hH (lv_sub hl [6] rfl)
              · replace h := if_t h hc
                refine lv_iconst (v := (-1)) hx hb dL_edit_170 (by decide) ?_
                refine lv_goto (tgt := 183) hx hb dL_edit_171 (by decide) ?_
                refine lv_iload_n hx hb dL_edit_183 rfl (lv_at hl 6 rfl) ?_
                refine lv_iconst (v := 3) hx hb dL_edit_184 (by decide) ?_
                obtain ⟨r165, hq164, h⟩ := bnd_some h
                refine r_callSI X.1 hl hH (As := [.int x3, .int 3]) (rest := [.int ((-1)), .int r108, .int r102, .ref (adr Γ 0)]) (c_L_below l X.1.2.2.2.2.2.2.1 σ x3 3 _ hq164) (cw_S X.1 2 mw_129 mw_127 mw_128 mw_124 rfl rfl (by decide +kernel) ⟨Nat.le_of_ble_eq_true rfl, Nat.le_of_ble_eq_true rfl⟩) rfl rfl (Nat.le_of_ble_eq_true rfl) dL_edit_185 ⟨Nat.zero_le _, Nat.zero_le _⟩ (fun H locs hH => ?_)
                refine lv_if_ne (tgt := 195) hx hb dL_edit_188 (by decide) (fun hc => ?_) (fun hc => ?_)
                · replace h := if_f h hc
                  refine lv_iload hx hb dL_edit_195 (lv_at hl 1 rfl) ?_
                  exact b_L_edit_197 X x1 x2 x3  σ r105 ((-1)) r108 r102 h _ _ _ hH (lv_sub hl [6] rfl)
                · replace h := if_t h hc
                  refine lv_iconst (v := 0) hx hb dL_edit_191 (by decide) ?_
                  refine lv_goto (tgt := 197) hx hb dL_edit_192 (by decide) ?_
                  exact b_L_edit_197 X x1 x2 x3  σ 0 ((-1)) r108 r102 h _ _ _ hH (lv_sub hl [6] rfl)
        · replace h := if_f h hc
          have hn3 := hc
          refine lv_tableOut (tgt := 224) hx hb dL_edit_34 (by omega) (by decide) ?_
          refine lv_aload_n hx hb dL_edit_224 rfl (lv_at hl 3 rfl) ?_
          refine lv_iload hx hb dL_edit_225 (lv_at hl 2 rfl) ?_
          refine lv_iconst (v := 0) hx hb dL_edit_227 (by decide) ?_
          obtain ⟨r168, hq167, h⟩ := bnd_some h
          refine r_callVI X.1 hl hH (As := [.int r102, .int 0]) (rest := []) (c_X10_ofModule l X.1.2.2.2.2.2.2.1 σ r102 0 _ hq167) (cw_V X.1 2 mw_255 mw_252 mw_253 mw_254 mw_2 rfl rfl (by decide +kernel) ⟨Nat.le_of_ble_eq_true rfl, Nat.le_of_ble_eq_true rfl⟩) (r_recv X.1 hH (by decide) rfl rfl) rfl rfl (Nat.le_of_ble_eq_true rfl) dL_edit_228 ⟨Nat.zero_le _, Nat.zero_le _⟩ (fun H locs hH => ?_)
          refine lv_bipush (v := 6) hx hb dL_edit_231 (by decide) ?_
          refine lv_icmp_ne (tgt := 252) hx hb dL_edit_233 (by decide) (fun hc => ?_) (fun hc => ?_)
          · replace h := if_f h hc
            exact b_L_edit_252 X x1 x2 x3  σ r102 r105 h _ _ _ hH (lv_sub hl [3, 5, 6, 2, 1] rfl)
          · replace h := if_t h hc
            refine lv_aload_n hx hb dL_edit_236 rfl (lv_at hl 3 rfl) ?_
            refine lv_iload hx hb dL_edit_237 (lv_at hl 2 rfl) ?_
            refine lv_iload_n hx hb dL_edit_239 rfl (lv_at hl 6 rfl) ?_
            refine lv_bipush (v := 11) hx hb dL_edit_240 (by decide) ?_
            refine lv_ishr hx hb dL_edit_242 ?_
            refine lv_bipush (v := 8) hx hb dL_edit_243 (by decide) ?_
            obtain ⟨r201, hq200, h⟩ := bnd_some h
            refine r_callSI X.1 hl hH (As := [.int (x3 >>> ((11 : Int32) &&& 31)), .int 8]) (rest := [.int r102, .ref (adr Γ 0)]) (c_L_below l X.1.2.2.2.2.2.2.1 σ (x3 >>> ((11 : Int32) &&& 31)) 8 _ hq200) (cw_S X.1 2 mw_129 mw_127 mw_128 mw_124 rfl rfl (by decide +kernel) ⟨Nat.le_of_ble_eq_true rfl, Nat.le_of_ble_eq_true rfl⟩) rfl rfl (Nat.le_of_ble_eq_true rfl) dL_edit_245 ⟨Nat.zero_le _, Nat.zero_le _⟩ (fun H locs hH => ?_)
            obtain ⟨σ205, r204, hq203, h⟩ := bnd2_some h
            refine r_callVI X.1 hl hH (As := [.int r102, .int r201]) (rest := []) (c_X10_drop l X.1.2.2.2.2.2.2.1 σ r102 r201 _ _ hq203) (cw_V X.1 2 mw_334 mw_331 mw_332 mw_333 mw_2 rfl rfl (by decide +kernel) ⟨Nat.le_of_ble_eq_true rfl, Nat.le_of_ble_eq_true rfl⟩) (r_recv X.1 hH (by decide) rfl rfl) rfl rfl (Nat.le_of_ble_eq_true rfl) dL_edit_248 ⟨Nat.zero_le _, Nat.zero_le _⟩ (fun H locs hH => ?_)
            refine lv_pop hx hb dL_edit_251 rfl ?_
            exact b_L_edit_252 X x1 x2 x3  σ205 r102 r105 h _ _ _ hH (lv_sub hl [3, 5, 6, 2, 1] rfl)
