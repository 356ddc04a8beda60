/-! WALKS, laid by wip/p23/gen.py: X9_renewRound, X10_rounds, X10_isAsNew, X10_digestOfName, X10_digestOfModule, X10_digest -/
def m_X9_renewRound_10 (i0 : Nat) (x1 : Int32)  : Nat → Sg → Int32 → Int32 → Int32 → Option (Sg × Int32)
  | 0, _, _, _, _ => none
  | n + 1, σ, x2, x3, x4 => if (σ.1 18 0 0) ≤ x4 then some (σ, x3) else if x1 ≤ x3 then some (σ, x3) else chk (inb x4 8) (bnd (m_X6_smallestOf σ (σ.1 17 0 x4.toNatClampNeg)) (fun r106 => bnd (m_X6_has σ x2 r106) (fun r109 => if r109 = 0 then m_X9_renewRound_10 i0 x1 n σ x2 x3 (x4 + 1) else chk (inb r106 8) (if (((σ.1 14 0 r106.toNatClampNeg) &&& ((σ.1 17 0 x4.toNatClampNeg) ^^^ ((-1) : Int32))) &&& x2) = 0 then bnd2 (m_X9_renew σ i0 (σ.1 17 0 x4.toNatClampNeg)) (fun σ114 r113 => m_X9_renewRound_10 i0 x1 n σ114 x2 (x3 + 1) (x4 + 1)) else m_X9_renewRound_10 i0 x1 n σ x2 x3 (x4 + 1)))))
set_option maxHeartbeats 4000000 in
set_option maxRecDepth 100000 in
theorem b_X9_renewRound_10 {p : Program} {l : Launch} {e : Env} {s : State} {m : MethodId} {args : Array Value} {below : List Frame} {meth : Method} {c : Code} {Γ : GG} (X : MB Γ p s m args meth c cX9_renewRound 7 RX9 (some .int)) {σf : Sg} {rf : Int32} (i0 : Nat) (hi0 : i0 < 2) (x1 : Int32) : ∀ (n : Nat), (∀ (σ : Sg) (x2 : Int32) (x3 : Int32) (x4 : Int32), (m_X9_renewRound_10 i0 x1 n) σ x2 x3 x4 = some (σf, rf) → ∀ (H : Heap) (locs : List Loc) (ls : Array Slot), HW (IA Γ) Γ σ s.heap H locs → lv_has ls 7 [(0, .ref (adr Γ (kW i0))), (1, .int x1), (2, .int x2), (3, .int x3), (4, .int x4)] → W p l e ({ frames := 5, cells := 0, slots := 0, locals := 129 } : Room) s m args below meth c H locs 0 0 (QI Γ σf rf below args s) (F0 m 10 ls [])) := by
  have hx := X.1.1
  have hb := X.1.2.1
  intro n
  induction n with
  | zero => intro σ x2 x3 x4 h; rw [m_X9_renewRound_10] at h; cases h
  | succ n ih =>
    intro σ x2 x3 x4 h H locs ls hH hl
    rw [m_X9_renewRound_10] at h
    refine lv_iload hx hb dX9_renewRound_10 (lv_at hl 4 rfl) ?_
    refine lv_aload_n hx hb dX9_renewRound_12 rfl (lv_at hl 0 rfl) ?_
    refine r_get X.1 hH (kW_lt hi0) (dW0 _ hi0) rfl inlX9 2 (by decide) (v := .ref (adr Γ 12)) rfl mw_66 dX9_renewRound_13 ?_
    refine r_get X.1 hH (by decide) rfl rfl inlX6 6 (by decide) (v := .int (σ.1 18 0 0)) rfl mw_384 dX9_renewRound_16 ?_
    refine lv_icmp_ge (tgt := 91) hx hb dX9_renewRound_19 (by decide) (fun hc => ?_) (fun hc => ?_)
    · replace h := if_t h hc
      refine lv_iload_n hx hb dX9_renewRound_91 rfl (lv_at hl 3 rfl) ?_
      cases h
      exact e_int X hH rfl dX9_renewRound_92
    · replace h := if_f h hc
      refine lv_iload_n hx hb dX9_renewRound_22 rfl (lv_at hl 3 rfl) ?_
      refine lv_iload_n hx hb dX9_renewRound_23 rfl (lv_at hl 1 rfl) ?_
      refine lv_icmp_ge (tgt := 91) hx hb dX9_renewRound_24 (by decide) (fun hc => ?_) (fun hc => ?_)
      · replace h := if_t h hc
        refine lv_iload_n hx hb dX9_renewRound_91 rfl (lv_at hl 3 rfl) ?_
        cases h
        exact e_int X hH rfl dX9_renewRound_92
      · replace h := if_f h hc
        refine lv_aload_n hx hb dX9_renewRound_27 rfl (lv_at hl 0 rfl) ?_
        refine r_get X.1 hH (kW_lt hi0) (dW0 _ hi0) rfl inlX9 2 (by decide) (v := .ref (adr Γ 12)) rfl mw_66 dX9_renewRound_28 ?_
        refine r_get X.1 hH (by decide) rfl rfl inlX6 5 (by decide) (v := .ref (adr Γ 17)) rfl mw_385 dX9_renewRound_31 ?_
        refine lv_iload hx hb dX9_renewRound_34 (lv_at hl 4 rfl) ?_
        obtain ⟨hg104, h⟩ := chk_some h
        refine r_ild X.1 hH (by decide) rfl hg104 dX9_renewRound_36 ?_
        refine lv_istore (lv' := [(5, .int (σ.1 17 0 x4.toNatClampNeg)), (0, .ref (adr Γ (kW i0))), (1, .int x1), (2, .int x2), (3, .int x3), (4, .int x4)]) hx hb dX9_renewRound_37 hl (by decide) rfl (fun ls hl => ?_)
        refine lv_iload hx hb dX9_renewRound_39 (lv_at hl 0 rfl) ?_
        obtain ⟨r106, hq105, h⟩ := bnd_some h
        refine r_callSI X.1 hl hH (As := [.int (σ.1 17 0 x4.toNatClampNeg)]) (rest := []) (c_X6_smallestOf l X.1.2.2.2.2.2.2.1 σ (σ.1 17 0 x4.toNatClampNeg) _ hq105) (cw_S X.1 1 mw_278 mw_308 mw_277 mw_20 rfl rfl (by decide +kernel) ⟨Nat.le_of_ble_eq_true rfl, Nat.le_of_ble_eq_true rfl⟩) rfl rfl (Nat.le_of_ble_eq_true rfl) dX9_renewRound_41 ⟨Nat.zero_le _, Nat.zero_le _⟩ (fun H locs hH => ?_)
        refine lv_istore (lv' := [(6, .int r106), (5, .int (σ.1 17 0 x4.toNatClampNeg)), (0, .ref (adr Γ (kW i0))), (1, .int x1), (2, .int x2), (3, .int x3), (4, .int x4)]) hx hb dX9_renewRound_44 hl (by decide) rfl (fun ls hl => ?_)
        refine lv_iload_n hx hb dX9_renewRound_46 rfl (lv_at hl 4 rfl) ?_
        refine lv_iload hx hb dX9_renewRound_47 (lv_at hl 0 rfl) ?_
        obtain ⟨r109, hq108, h⟩ := bnd_some h
        refine r_callSI X.1 hl hH (As := [.int x2, .int r106]) (rest := []) (c_X6_has l X.1.2.2.2.2.2.2.1 σ x2 r106 _ hq108) (cw_S X.1 2 mw_204 mw_299 mw_203 mw_20 rfl rfl (by decide +kernel) ⟨Nat.le_of_ble_eq_true rfl, Nat.le_of_ble_eq_true rfl⟩) rfl rfl (Nat.le_of_ble_eq_true rfl) dX9_renewRound_49 ⟨Nat.zero_le _, Nat.zero_le _⟩ (fun H locs hH => ?_)
        refine lv_if_eq (tgt := 85) hx hb dX9_renewRound_52 (by decide) (fun hc => ?_) (fun hc => ?_)
        · replace h := if_t h hc
          refine lv_iinc (v := x4 + 1) (lv' := [(4, .int (x4 + 1)), (6, .int r106), (5, .int (σ.1 17 0 x4.toNatClampNeg)), (0, .ref (adr Γ (kW i0))), (1, .int x1), (2, .int x2), (3, .int x3)]) hx hb dX9_renewRound_85 hl (k := 6) rfl rfl (by decide) rfl (fun ls hl => ?_)
          refine lv_goto (tgt := 10) hx hb dX9_renewRound_88 (by decide) ?_
          exact ih σ x2 x3 (x4 + 1) h _ _ _ hH (lv_sub hl [3, 4, 5, 6, 0] rfl)
        · replace h := if_f h hc
          refine lv_aload_n hx hb dX9_renewRound_55 rfl (lv_at hl 2 rfl) ?_
          refine r_get X.1 hH (kW_lt hi0) (dW0 _ hi0) rfl inlX9 2 (by decide) (v := .ref (adr Γ 12)) rfl mw_66 dX9_renewRound_56 ?_
          refine r_get X.1 hH (by decide) rfl rfl inlX6 2 (by decide) (v := .ref (adr Γ 14)) rfl mw_529 dX9_renewRound_59 ?_
          refine lv_iload hx hb dX9_renewRound_62 (lv_at hl 0 rfl) ?_
          obtain ⟨hg111, h⟩ := chk_some h
          refine r_ild X.1 hH (by decide) rfl hg111 dX9_renewRound_64 ?_
          refine lv_iload hx hb dX9_renewRound_65 (lv_at hl 1 rfl) ?_
          refine lv_iconst (v := (-1)) hx hb dX9_renewRound_67 (by decide) ?_
          refine lv_ixor hx hb dX9_renewRound_68 ?_
          refine lv_iand hx hb dX9_renewRound_69 ?_
          refine lv_iload_n hx hb dX9_renewRound_70 rfl (lv_at hl 4 rfl) ?_
          refine lv_iand hx hb dX9_renewRound_71 ?_
          refine lv_if_ne (tgt := 85) hx hb dX9_renewRound_72 (by decide) (fun hc => ?_) (fun hc => ?_)
          · replace h := if_f h hc
            refine lv_iinc (v := x4 + 1) (lv' := [(4, .int (x4 + 1)), (6, .int r106), (5, .int (σ.1 17 0 x4.toNatClampNeg)), (0, .ref (adr Γ (kW i0))), (1, .int x1), (2, .int x2), (3, .int x3)]) hx hb dX9_renewRound_85 hl (k := 6) rfl rfl (by decide) rfl (fun ls hl => ?_)
            refine lv_goto (tgt := 10) hx hb dX9_renewRound_88 (by decide) ?_
            exact ih σ x2 x3 (x4 + 1) h _ _ _ hH (lv_sub hl [3, 4, 5, 6, 0] rfl)
          · replace h := if_t h hc
            refine lv_aload_n hx hb dX9_renewRound_75 rfl (lv_at hl 2 rfl) ?_
            refine lv_iload hx hb dX9_renewRound_76 (lv_at hl 1 rfl) ?_
            obtain ⟨σ114, r113, hq112, h⟩ := bnd2_some h
            refine r_callVI X.1 hl hH (As := [.int (σ.1 17 0 x4.toNatClampNeg)]) (rest := []) (c_X9_renew l X.1.2.2.2.2.2.2.1 σ i0 hi0 (σ.1 17 0 x4.toNatClampNeg) _ _ hq112) (cw_V X.1 1 mw_390 mw_387 mw_388 mw_389 mw_24 rfl rfl (by decide +kernel) ⟨Nat.le_of_ble_eq_true rfl, Nat.le_of_ble_eq_true rfl⟩) (r_recv X.1 hH (kW_lt hi0) (dW0 _ hi0) rfl) rfl rfl (Nat.le_of_ble_eq_true rfl) dX9_renewRound_78 ⟨Nat.zero_le _, Nat.zero_le _⟩ (fun H locs hH => ?_)
            refine lv_pop hx hb dX9_renewRound_81 rfl ?_
            refine lv_iinc (v := x3 + 1) (lv' := [(3, .int (x3 + 1)), (6, .int r106), (5, .int (σ.1 17 0 x4.toNatClampNeg)), (0, .ref (adr Γ (kW i0))), (1, .int x1), (2, .int x2), (4, .int x4)]) hx hb dX9_renewRound_82 hl (k := 5) rfl rfl (by decide) rfl (fun ls hl => ?_)
            refine lv_iinc (v := x4 + 1) (lv' := [(4, .int (x4 + 1)), (3, .int (x3 + 1)), (6, .int r106), (5, .int (σ.1 17 0 x4.toNatClampNeg)), (0, .ref (adr Γ (kW i0))), (1, .int x1), (2, .int x2)]) hx hb dX9_renewRound_85 hl (k := 6) rfl rfl (by decide) rfl (fun ls hl => ?_)
            refine lv_goto (tgt := 10) hx hb dX9_renewRound_88 (by decide) ?_
            exact ih σ114 x2 (x3 + 1) (x4 + 1) h _ _ _ hH (lv_sub hl [4, 5, 6, 1, 0] rfl)
/-- CutoffMill$Works.renewRound(I)I -/
def m_X9_renewRound (σ : Sg) (i0 : Nat) (x1 : Int32) : Option (Sg × Int32) := bnd (m_X9_staleModules σ i0) (fun r102 => m_X9_renewRound_10 i0 x1 1000 σ r102 0 0)
set_option maxHeartbeats 4000000 in
set_option maxRecDepth 100000 in
theorem c_X9_renewRound (l : Launch) {Γ : GG} (hJ : IJ Γ) (σ : Sg) (i0 : Nat) (hi0 : i0 < 2) (x1 : Int32) (σf : Sg) (rf : Int32) (h : m_X9_renewRound σ i0 x1 = some (σf, rf)) : CI l yX9_renewRound (wy yX9_renewRound cX9_renewRound 7 (some .int)) { frames := 5, cells := 0, slots := 0, locals := 129 } Γ σ [.ref (adr Γ (kW i0)), .int x1] σf rf := by
  refine met_of (by decide +kernel) hJ (Nat.le_of_ble_eq_true rfl) (fun p e s m below meth c ls X hH hl => ?_)
  have hl : lv_has ls 7 [(0, .ref (adr Γ (kW i0))), (1, .int x1)] := hl
  have hx := X.1.1
  have hb := X.1.2.1
  rw [m_X9_renewRound] at h
  refine lv_aload_n hx hb dX9_renewRound_0 rfl (lv_at hl 0 rfl) ?_
  obtain ⟨r102, hq101, h⟩ := bnd_some h
  refine r_callVI X.1 hl hH (As := []) (rest := []) (c_X9_staleModules l X.1.2.2.2.2.2.2.1 σ i0 hi0 _ hq101) (cw_V X.1 0 mw_533 mw_530 mw_531 mw_532 mw_24 rfl rfl (by decide +kernel) ⟨Nat.le_of_ble_eq_true rfl, Nat.le_of_ble_eq_true rfl⟩) (r_recv X.1 hH (kW_lt hi0) (dW0 _ hi0) rfl) rfl rfl (Nat.le_of_ble_eq_true rfl) dX9_renewRound_1 ⟨Nat.zero_le _, Nat.zero_le _⟩ (fun H locs hH => ?_)
  refine lv_istore_n (lv' := [(2, .int r102), (0, .ref (adr Γ (kW i0))), (1, .int x1)]) hx hb dX9_renewRound_4 rfl hl (by decide) rfl (fun ls hl => ?_)
  refine lv_iconst (v := 0) hx hb dX9_renewRound_5 (by decide) ?_
  refine lv_istore_n (lv' := [(3, .int 0), (2, .int r102), (0, .ref (adr Γ (kW i0))), (1, .int x1)]) hx hb dX9_renewRound_6 rfl hl (by decide) rfl (fun ls hl => ?_)
  refine lv_iconst (v := 0) hx hb dX9_renewRound_7 (by decide) ?_
  refine lv_istore (lv' := [(4, .int 0), (3, .int 0), (2, .int r102), (0, .ref (adr Γ (kW i0))), (1, .int x1)]) hx hb dX9_renewRound_8 hl (by decide) rfl (fun ls hl => ?_)
  exact b_X9_renewRound_10 X i0 hi0 x1  1000 σ r102 0 0 h _ _ _ hH (lv_sub hl [3, 4, 2, 1, 0] rfl)
def m_X10_rounds_19 (x1 : Int32)  : Nat → Sg → Int32 → Option (Sg × Int32)
  | 0, _, _ => none
  | n + 1, σ, x2 => if 8 ≤ x2 then some (σ, x2) else bnd2 (m_X9_renewRound σ 1 x1) (fun σ109 r108 => if r108 ≤ 0 then some (σ109, x2) else m_X10_rounds_19 x1 n σ109 (x2 + 1))
set_option maxHeartbeats 4000000 in
set_option maxRecDepth 100000 in
theorem b_X10_rounds_19 {p : Program} {l : Launch} {e : Env} {s : State} {m : MethodId} {args : Array Value} {below : List Frame} {meth : Method} {c : Code} {Γ : GG} (X : MB Γ p s m args meth c cX10_rounds 3 RX10 (some .int)) {σf : Sg} {rf : Int32} (x1 : Int32) : ∀ (n : Nat), (∀ (σ : Sg) (x2 : Int32), (m_X10_rounds_19 x1 n) σ x2 = some (σf, rf) → ∀ (H : Heap) (locs : List Loc) (ls : Array Slot), HW (IA Γ) Γ σ s.heap H locs → lv_has ls 3 [(0, .ref (adr Γ 0)), (1, .int x1), (2, .int x2)] → W p l e ({ frames := 6, cells := 0, slots := 0, locals := 155 } : Room) s m args below meth c H locs 0 0 (QI Γ σf rf below args s) (F0 m 19 ls [])) := by
  have hx := X.1.1
  have hb := X.1.2.1
  intro n
  induction n with
  | zero => intro σ x2 h; rw [m_X10_rounds_19] at h; cases h
  | succ n ih =>
    intro σ x2 h H locs ls hH hl
    rw [m_X10_rounds_19] at h
    refine lv_iload_n hx hb dX10_rounds_19 rfl (lv_at hl 2 rfl) ?_
    refine lv_bipush (v := 8) hx hb dX10_rounds_20 (by decide) ?_
    refine lv_icmp_ge (tgt := 42) hx hb dX10_rounds_22 (by decide) (fun hc => ?_) (fun hc => ?_)
    · replace h := if_t h hc
      refine lv_iload_n hx hb dX10_rounds_42 rfl (lv_at hl 2 rfl) ?_
      cases h
      exact e_int X hH rfl dX10_rounds_43
    · replace h := if_f h hc
      refine lv_aload_n hx hb dX10_rounds_25 rfl (lv_at hl 0 rfl) ?_
      refine r_get X.1 hH (by decide) rfl rfl inlX10 4 (by decide) (v := .ref (adr Γ (kW 1))) rfl mw_26 dX10_rounds_26 ?_
      refine lv_iload_n hx hb dX10_rounds_29 rfl (lv_at hl 1 rfl) ?_
      obtain ⟨σ109, r108, hq107, h⟩ := bnd2_some h
      refine r_callVI X.1 hl hH (As := [.int x1]) (rest := []) (c_X9_renewRound l X.1.2.2.2.2.2.2.1 σ 1 (by omega) x1 _ _ hq107) (cw_V X.1 1 mw_528 mw_525 mw_526 mw_527 mw_24 rfl rfl (by decide +kernel) ⟨Nat.le_of_ble_eq_true rfl, Nat.le_of_ble_eq_true rfl⟩) (r_recv X.1 hH (kW_lt (by omega)) (dW0 _ (by omega)) rfl) rfl rfl (Nat.le_of_ble_eq_true rfl) dX10_rounds_30 ⟨Nat.zero_le _, Nat.zero_le _⟩ (fun H locs hH => ?_)
      refine lv_if_le (tgt := 42) hx hb dX10_rounds_33 (by decide) (fun hc => ?_) (fun hc => ?_)
      · replace h := if_t h hc
        refine lv_iload_n hx hb dX10_rounds_42 rfl (lv_at hl 2 rfl) ?_
        cases h
        exact e_int X hH rfl dX10_rounds_43
      · replace h := if_f h hc
        refine lv_iinc (v := x2 + 1) (lv' := [(2, .int (x2 + 1)), (0, .ref (adr Γ 0)), (1, .int x1)]) hx hb dX10_rounds_36 hl (k := 2) rfl rfl (by decide) rfl (fun ls hl => ?_)
        refine lv_goto (tgt := 19) hx hb dX10_rounds_39 (by decide) ?_
        exact ih σ109 (x2 + 1) h _ _ _ hH (lv_sub hl [1, 2, 0] rfl)
/-- CutoffMill.rounds(I)I -/
def m_X10_rounds (σ : Sg) (x1 : Int32) : Option (Sg × Int32) := bnd (m_X10_checkWithin σ x1 1 4) (fun _ => bnd (m_X9_startFrom σ 1 0) (fun σ106 => m_X10_rounds_19 x1 1000 σ106 0))
set_option maxHeartbeats 4000000 in
set_option maxRecDepth 100000 in
theorem c_X10_rounds (l : Launch) {Γ : GG} (hJ : IJ Γ) (σ : Sg) (x1 : Int32) (σf : Sg) (rf : Int32) (h : m_X10_rounds σ x1 = some (σf, rf)) : CI l yX10_rounds (wy yX10_rounds cX10_rounds 3 (some .int)) { frames := 6, cells := 0, slots := 0, locals := 155 } Γ σ [.ref (adr Γ 0), .int x1] σf rf := by
  refine met_of (by decide +kernel) hJ (Nat.le_of_ble_eq_true rfl) (fun p e s m below meth c ls X hH hl => ?_)
  have hl : lv_has ls 3 [(0, .ref (adr Γ 0)), (1, .int x1)] := hl
  have hx := X.1.1
  have hb := X.1.2.1
  rw [m_X10_rounds] at h
  refine lv_iload_n hx hb dX10_rounds_0 rfl (lv_at hl 1 rfl) ?_
  refine lv_iconst (v := 1) hx hb dX10_rounds_1 (by decide) ?_
  refine lv_iconst (v := 4) hx hb dX10_rounds_2 (by decide) ?_
  obtain ⟨_, hq101, h⟩ := bnd_some h
  refine r_callSV X.1 hl hH (r := ()) (As := [.int x1, .int 1, .int 4]) (rest := []) (c_X10_checkWithin l X.1.2.2.2.2.2.2.1 σ x1 1 4 () hq101) (cw_S X.1 3 mw_268 mw_266 mw_267 mw_2 rfl rfl (by decide +kernel) ⟨Nat.le_of_ble_eq_true rfl, Nat.le_of_ble_eq_true rfl⟩) rfl rfl (Nat.le_of_ble_eq_true rfl) dX10_rounds_3 ⟨Nat.zero_le _, Nat.zero_le _⟩ (fun H locs hH => ?_)
  refine lv_aload_n hx hb dX10_rounds_6 rfl (lv_at hl 0 rfl) ?_
  refine r_get X.1 hH (by decide) rfl rfl inlX10 4 (by decide) (v := .ref (adr Γ (kW 1))) rfl mw_26 dX10_rounds_7 ?_
  refine lv_aload_n hx hb dX10_rounds_10 rfl (lv_at hl 0 rfl) ?_
  refine r_get X.1 hH (by decide) rfl rfl inlX10 3 (by decide) (v := .ref (adr Γ (kW 0))) rfl mw_25 dX10_rounds_11 ?_
  obtain ⟨σ106, hq104, h⟩ := bnd_some h
  refine r_callVV X.1 hl hH (r := ()) (As := [.ref (adr Γ (kW 0))]) (rest := []) (c_X9_startFrom l X.1.2.2.2.2.2.2.1 σ 1 (by omega) 0 (by omega) _ () hq104) (cw_V X.1 1 mw_370 mw_367 mw_368 mw_369 mw_24 rfl rfl (by decide +kernel) ⟨Nat.le_of_ble_eq_true rfl, Nat.le_of_ble_eq_true rfl⟩) (r_recv X.1 hH (kW_lt (by omega)) (dW0 _ (by omega)) rfl) rfl rfl (Nat.le_of_ble_eq_true rfl) dX10_rounds_14 ⟨Nat.zero_le _, Nat.zero_le _⟩ (fun H locs hH => ?_)
  refine lv_iconst (v := 0) hx hb dX10_rounds_17 (by decide) ?_
  refine lv_istore_n (lv' := [(2, .int 0), (0, .ref (adr Γ 0)), (1, .int x1)]) hx hb dX10_rounds_18 rfl hl (by decide) rfl (fun ls hl => ?_)
  exact b_X10_rounds_19 X x1  1000 σ106 0 h _ _ _ hH (lv_sub hl [1, 2, 0] rfl)
/-- CutoffMill.isAsNew()Z -/
def m_X10_isAsNew (σ : Sg)  : Option Int32 := bnd (m_X9_staleCount σ 0) (fun r102 => if r102 = 0 then some 1 else some 0)
set_option maxHeartbeats 4000000 in
set_option maxRecDepth 100000 in
theorem c_X10_isAsNew (l : Launch) {Γ : GG} (hJ : IJ Γ) (σ : Sg)  (rf : Int32) (h : m_X10_isAsNew σ  = some rf) : CI l yX10_isAsNew (wy yX10_isAsNew cX10_isAsNew 1 (some .boolean)) { frames := 5, cells := 0, slots := 0, locals := 111 } Γ σ [.ref (adr Γ 0)] σ rf := by
  refine met_of (by decide +kernel) hJ (Nat.le_of_ble_eq_true rfl) (fun p e s m below meth c ls X hH hl => ?_)
  have hl : lv_has ls 1 [(0, .ref (adr Γ 0))] := hl
  have hx := X.1.1
  have hb := X.1.2.1
  rw [m_X10_isAsNew] at h
  refine lv_aload_n hx hb dX10_isAsNew_0 rfl (lv_at hl 0 rfl) ?_
  refine r_get X.1 hH (by decide) rfl rfl inlX10 3 (by decide) (v := .ref (adr Γ (kW 0))) rfl mw_25 dX10_isAsNew_1 ?_
  obtain ⟨r102, hq101, h⟩ := bnd_some h
  refine r_callVI X.1 hl hH (As := []) (rest := []) (c_X9_staleCount l X.1.2.2.2.2.2.2.1 σ 0 (by omega) _ hq101) (cw_V X.1 0 mw_556 mw_553 mw_554 mw_555 mw_24 rfl rfl (by decide +kernel) ⟨Nat.le_of_ble_eq_true rfl, Nat.le_of_ble_eq_true rfl⟩) (r_recv X.1 hH (kW_lt (by omega)) (dW0 _ (by omega)) rfl) rfl rfl (Nat.le_of_ble_eq_true rfl) dX10_isAsNew_4 ⟨Nat.zero_le _, Nat.zero_le _⟩ (fun H locs hH => ?_)
  refine lv_if_ne (tgt := 14) hx hb dX10_isAsNew_7 (by decide) (fun hc => ?_) (fun hc => ?_)
  · replace h := if_f h hc
    refine lv_iconst (v := 0) hx hb dX10_isAsNew_14 (by decide) ?_
    cases h
    exact e_int X hH rfl dX10_isAsNew_15
  · replace h := if_t h hc
    refine lv_iconst (v := 1) hx hb dX10_isAsNew_10 (by decide) ?_
    refine lv_goto (tgt := 15) hx hb dX10_isAsNew_11 (by decide) ?_
    cases h
    exact e_int X hH rfl dX10_isAsNew_15
def m_X10_digestOfName_74 (x1 : Int64) (x3 : Int32) (x4 : Int32)  : Nat → Sg → Int64 → Int32 → Option (Sg × Int64)
  | 0, _, _, _ => none
  | n + 1, σ, x5, x7 => if 5 < x7 then bnd2 (m_X10_run σ x3 x4) (fun σ103 r102 => some (σ103, (x5 * (31 : Int64)) + ((r102 : Int32).toInt64))) else bnd (m_X10_built σ x3 x4 x7) (fun r105 => m_X10_digestOfName_74 x1 x3 x4 n σ ((x5 * (31 : Int64)) + ((r105 : Int32).toInt64)) (x7 + 1))
set_option maxHeartbeats 4000000 in
set_option maxRecDepth 100000 in
theorem b_X10_digestOfName_74 {p : Program} {l : Launch} {e : Env} {s : State} {m : MethodId} {args : Array Value} {below : List Frame} {meth : Method} {c : Code} {Γ : GG} (X : MB Γ p s m args meth c cX10_digestOfName 8 RX10 (some .long)) {σf : Sg} {rf : Int64} (x1 : Int64) (x3 : Int32) (x4 : Int32) : ∀ (n : Nat), (∀ (σ : Sg) (x5 : Int64) (x7 : Int32), (m_X10_digestOfName_74 x1 x3 x4 n) σ x5 x7 = some (σf, rf) → ∀ (H : Heap) (locs : List Loc) (ls : Array Slot), HW (IA Γ) Γ σ s.heap H locs → lv_has ls 8 [(0, .ref (adr Γ 0)), (3, .int x3), (4, .int x4), (5, .long x5), (7, .int x7)] → W p l e ({ frames := 3, cells := 0, slots := 0, locals := 72 } : Room) s m args below meth c H locs 0 0 (QL Γ σf rf below args s) (F0 m 74 ls [])) := by
  have hx := X.1.1
  have hb := X.1.2.1
  intro n
  induction n with
  | zero => intro σ x5 x7 h; rw [m_X10_digestOfName_74] at h; cases h
  | succ n ih =>
    intro σ x5 x7 h H locs ls hH hl
    rw [m_X10_digestOfName_74] at h
    refine lv_iload hx hb dX10_digestOfName_74 (lv_at hl 4 rfl) ?_
    refine lv_iconst (v := 5) hx hb dX10_digestOfName_76 (by decide) ?_
    refine lv_icmp_gt (tgt := 105) hx hb dX10_digestOfName_77 (by decide) (fun hc => ?_) (fun hc => ?_)
    · replace h := if_t h hc
      refine lv_lload hx hb dX10_digestOfName_105 (lv_at hl 3 rfl) ?_
      refine lv_ldc2 (v := 31) hx hb X.1.2.2.2.1 (X.1.hts _ mw_638) dX10_digestOfName_107 ?_
      refine lv_lmul hx hb dX10_digestOfName_110 ?_
      refine lv_aload_n hx hb dX10_digestOfName_111 rfl (lv_at hl 0 rfl) ?_
      refine lv_iload_n hx hb dX10_digestOfName_112 rfl (lv_at hl 1 rfl) ?_
      refine lv_iload hx hb dX10_digestOfName_113 (lv_at hl 2 rfl) ?_
      obtain ⟨σ103, r102, hq101, h⟩ := bnd2_some h
      refine r_callVI X.1 hl hH (As := [.int x3, .int x4]) (rest := [.long (x5 * (31 : Int64))]) (c_X10_run l X.1.2.2.2.2.2.2.1 σ x3 x4 _ _ hq101) (cw_V X.1 2 mw_613 mw_670 mw_611 mw_612 mw_2 rfl rfl (by decide +kernel) ⟨Nat.le_of_ble_eq_true rfl, Nat.le_of_ble_eq_true rfl⟩) (r_recv X.1 hH (by decide) rfl rfl) rfl rfl (Nat.le_of_ble_eq_true rfl) dX10_digestOfName_115 ⟨Nat.zero_le _, Nat.zero_le _⟩ (fun H locs hH => ?_)
      refine lv_i2l (v := (r102 : Int32).toInt64) hx hb dX10_digestOfName_118 rfl ?_
      refine lv_ladd hx hb dX10_digestOfName_119 ?_
      cases h
      exact e_long X hH dX10_digestOfName_120
    · replace h := if_f h hc
      refine lv_lload hx hb dX10_digestOfName_80 (lv_at hl 3 rfl) ?_
      refine lv_ldc2 (v := 31) hx hb X.1.2.2.2.1 (X.1.hts _ mw_638) dX10_digestOfName_82 ?_
      refine lv_lmul hx hb dX10_digestOfName_85 ?_
      refine lv_aload_n hx hb dX10_digestOfName_86 rfl (lv_at hl 0 rfl) ?_
      refine lv_iload_n hx hb dX10_digestOfName_87 rfl (lv_at hl 1 rfl) ?_
      refine lv_iload hx hb dX10_digestOfName_88 (lv_at hl 2 rfl) ?_
      refine lv_iload hx hb dX10_digestOfName_90 (lv_at hl 4 rfl) ?_
      obtain ⟨r105, hq104, h⟩ := bnd_some h
      refine r_callVI X.1 hl hH (As := [.int x3, .int x4, .int x7]) (rest := [.long (x5 * (31 : Int64))]) (c_X10_built l X.1.2.2.2.2.2.2.1 σ x3 x4 x7 _ hq104) (cw_V X.1 3 mw_593 mw_669 mw_591 mw_592 mw_2 rfl rfl (by decide +kernel) ⟨Nat.le_of_ble_eq_true rfl, Nat.le_of_ble_eq_true rfl⟩) (r_recv X.1 hH (by decide) rfl rfl) rfl rfl (Nat.le_of_ble_eq_true rfl) dX10_digestOfName_92 ⟨Nat.zero_le _, Nat.zero_le _⟩ (fun H locs hH => ?_)
      refine lv_i2l (v := (r105 : Int32).toInt64) hx hb dX10_digestOfName_95 rfl ?_
      refine lv_ladd hx hb dX10_digestOfName_96 ?_
      refine lv_lstore (lv' := [(5, .long ((x5 * (31 : Int64)) + ((r105 : Int32).toInt64))), (0, .ref (adr Γ 0)), (3, .int x3), (4, .int x4), (7, .int x7)]) hx hb dX10_digestOfName_97 hl (by decide) rfl (fun ls hl => ?_)
      refine lv_iinc (v := x7 + 1) (lv' := [(7, .int (x7 + 1)), (5, .long ((x5 * (31 : Int64)) + ((r105 : Int32).toInt64))), (0, .ref (adr Γ 0)), (3, .int x3), (4, .int x4)]) hx hb dX10_digestOfName_99 hl (k := 4) rfl rfl (by decide) rfl (fun ls hl => ?_)
      refine lv_goto (tgt := 74) hx hb dX10_digestOfName_102 (by decide) ?_
      exact ih σ ((x5 * (31 : Int64)) + ((r105 : Int32).toInt64)) (x7 + 1) h _ _ _ hH (lv_sub hl [2, 3, 4, 1, 0] rfl)
def m_X10_digestOfName_40 (x1 : Int64) (x3 : Int32) (x4 : Int32)  : Nat → Sg → Int64 → Int32 → Option (Sg × Int64)
  | 0, _, _, _ => none
  | n + 1, σ, x5, x7 => if 5 < x7 then m_X10_digestOfName_74 x1 x3 x4 1000 σ x5 0 else bnd (m_X10_outside σ x3 x4 x7) (fun r108 => m_X10_digestOfName_40 x1 x3 x4 n σ ((x5 * (31 : Int64)) + ((r108 : Int32).toInt64)) (x7 + 1))
set_option maxHeartbeats 4000000 in
set_option maxRecDepth 100000 in
theorem b_X10_digestOfName_40 {p : Program} {l : Launch} {e : Env} {s : State} {m : MethodId} {args : Array Value} {below : List Frame} {meth : Method} {c : Code} {Γ : GG} (X : MB Γ p s m args meth c cX10_digestOfName 8 RX10 (some .long)) {σf : Sg} {rf : Int64} (x1 : Int64) (x3 : Int32) (x4 : Int32) : ∀ (n : Nat), (∀ (σ : Sg) (x5 : Int64) (x7 : Int32), (m_X10_digestOfName_40 x1 x3 x4 n) σ x5 x7 = some (σf, rf) → ∀ (H : Heap) (locs : List Loc) (ls : Array Slot), HW (IA Γ) Γ σ s.heap H locs → lv_has ls 8 [(0, .ref (adr Γ 0)), (3, .int x3), (4, .int x4), (5, .long x5), (7, .int x7)] → W p l e ({ frames := 3, cells := 0, slots := 0, locals := 72 } : Room) s m args below meth c H locs 0 0 (QL Γ σf rf below args s) (F0 m 40 ls [])) := by
  have hx := X.1.1
  have hb := X.1.2.1
  intro n
  induction n with
  | zero => intro σ x5 x7 h; rw [m_X10_digestOfName_40] at h; cases h
  | succ n ih =>
    intro σ x5 x7 h H locs ls hH hl
    rw [m_X10_digestOfName_40] at h
    refine lv_iload hx hb dX10_digestOfName_40 (lv_at hl 4 rfl) ?_
    refine lv_iconst (v := 5) hx hb dX10_digestOfName_42 (by decide) ?_
    refine lv_icmp_gt (tgt := 71) hx hb dX10_digestOfName_43 (by decide) (fun hc => ?_) (fun hc => ?_)
    · replace h := if_t h hc
      refine lv_iconst (v := 0) hx hb dX10_digestOfName_71 (by decide) ?_
      refine lv_istore (lv' := [(7, .int 0), (0, .ref (adr Γ 0)), (3, .int x3), (4, .int x4), (5, .long x5)]) hx hb dX10_digestOfName_72 hl (by decide) rfl (fun ls hl => ?_)
      exact b_X10_digestOfName_74 X x1 x3 x4  1000 σ x5 0 h _ _ _ hH (lv_sub hl [1, 2, 3, 4, 0] rfl)
    · replace h := if_f h hc
      refine lv_lload hx hb dX10_digestOfName_46 (lv_at hl 3 rfl) ?_
      refine lv_ldc2 (v := 31) hx hb X.1.2.2.2.1 (X.1.hts _ mw_638) dX10_digestOfName_48 ?_
      refine lv_lmul hx hb dX10_digestOfName_51 ?_
      refine lv_aload_n hx hb dX10_digestOfName_52 rfl (lv_at hl 0 rfl) ?_
      refine lv_iload_n hx hb dX10_digestOfName_53 rfl (lv_at hl 1 rfl) ?_
      refine lv_iload hx hb dX10_digestOfName_54 (lv_at hl 2 rfl) ?_
      refine lv_iload hx hb dX10_digestOfName_56 (lv_at hl 4 rfl) ?_
      obtain ⟨r108, hq107, h⟩ := bnd_some h
      refine r_callVI X.1 hl hH (As := [.int x3, .int x4, .int x7]) (rest := [.long (x5 * (31 : Int64))]) (c_X10_outside l X.1.2.2.2.2.2.2.1 σ x3 x4 x7 _ hq107) (cw_V X.1 3 mw_667 mw_664 mw_665 mw_666 mw_2 rfl rfl (by decide +kernel) ⟨Nat.le_of_ble_eq_true rfl, Nat.le_of_ble_eq_true rfl⟩) (r_recv X.1 hH (by decide) rfl rfl) rfl rfl (Nat.le_of_ble_eq_true rfl) dX10_digestOfName_58 ⟨Nat.zero_le _, Nat.zero_le _⟩ (fun H locs hH => ?_)
      refine lv_i2l (v := (r108 : Int32).toInt64) hx hb dX10_digestOfName_61 rfl ?_
      refine lv_ladd hx hb dX10_digestOfName_62 ?_
      refine lv_lstore (lv' := [(5, .long ((x5 * (31 : Int64)) + ((r108 : Int32).toInt64))), (0, .ref (adr Γ 0)), (3, .int x3), (4, .int x4), (7, .int x7)]) hx hb dX10_digestOfName_63 hl (by decide) rfl (fun ls hl => ?_)
      refine lv_iinc (v := x7 + 1) (lv' := [(7, .int (x7 + 1)), (5, .long ((x5 * (31 : Int64)) + ((r108 : Int32).toInt64))), (0, .ref (adr Γ 0)), (3, .int x3), (4, .int x4)]) hx hb dX10_digestOfName_65 hl (k := 4) rfl rfl (by decide) rfl (fun ls hl => ?_)
      refine lv_goto (tgt := 40) hx hb dX10_digestOfName_68 (by decide) ?_
      exact ih σ ((x5 * (31 : Int64)) + ((r108 : Int32).toInt64)) (x7 + 1) h _ _ _ hH (lv_sub hl [2, 3, 4, 1, 0] rfl)
def m_X10_digestOfName_6 (x1 : Int64) (x3 : Int32) (x4 : Int32)  : Nat → Sg → Int64 → Int32 → Option (Sg × Int64)
  | 0, _, _, _ => none
  | n + 1, σ, x5, x7 => if 1 < x7 then m_X10_digestOfName_40 x1 x3 x4 1000 σ x5 0 else bnd (m_X10_within σ x3 x4 x7) (fun r111 => m_X10_digestOfName_6 x1 x3 x4 n σ ((x5 * (31 : Int64)) + ((r111 : Int32).toInt64)) (x7 + 1))
set_option maxHeartbeats 4000000 in
set_option maxRecDepth 100000 in
theorem b_X10_digestOfName_6 {p : Program} {l : Launch} {e : Env} {s : State} {m : MethodId} {args : Array Value} {below : List Frame} {meth : Method} {c : Code} {Γ : GG} (X : MB Γ p s m args meth c cX10_digestOfName 8 RX10 (some .long)) {σf : Sg} {rf : Int64} (x1 : Int64) (x3 : Int32) (x4 : Int32) : ∀ (n : Nat), (∀ (σ : Sg) (x5 : Int64) (x7 : Int32), (m_X10_digestOfName_6 x1 x3 x4 n) σ x5 x7 = some (σf, rf) → ∀ (H : Heap) (locs : List Loc) (ls : Array Slot), HW (IA Γ) Γ σ s.heap H locs → lv_has ls 8 [(0, .ref (adr Γ 0)), (3, .int x3), (4, .int x4), (5, .long x5), (7, .int x7)] → W p l e ({ frames := 3, cells := 0, slots := 0, locals := 72 } : Room) s m args below meth c H locs 0 0 (QL Γ σf rf below args s) (F0 m 6 ls [])) := by
  have hx := X.1.1
  have hb := X.1.2.1
  intro n
  induction n with
  | zero => intro σ x5 x7 h; rw [m_X10_digestOfName_6] at h; cases h
  | succ n ih =>
    intro σ x5 x7 h H locs ls hH hl
    rw [m_X10_digestOfName_6] at h
    refine lv_iload hx hb dX10_digestOfName_6 (lv_at hl 4 rfl) ?_
    refine lv_iconst (v := 1) hx hb dX10_digestOfName_8 (by decide) ?_
    refine lv_icmp_gt (tgt := 37) hx hb dX10_digestOfName_9 (by decide) (fun hc => ?_) (fun hc => ?_)
    · replace h := if_t h hc
      refine lv_iconst (v := 0) hx hb dX10_digestOfName_37 (by decide) ?_
      refine lv_istore (lv' := [(7, .int 0), (0, .ref (adr Γ 0)), (3, .int x3), (4, .int x4), (5, .long x5)]) hx hb dX10_digestOfName_38 hl (by decide) rfl (fun ls hl => ?_)
      exact b_X10_digestOfName_40 X x1 x3 x4  1000 σ x5 0 h _ _ _ hH (lv_sub hl [1, 2, 3, 4, 0] rfl)
    · replace h := if_f h hc
      refine lv_lload hx hb dX10_digestOfName_12 (lv_at hl 3 rfl) ?_
      refine lv_ldc2 (v := 31) hx hb X.1.2.2.2.1 (X.1.hts _ mw_638) dX10_digestOfName_14 ?_
      refine lv_lmul hx hb dX10_digestOfName_17 ?_
      refine lv_aload_n hx hb dX10_digestOfName_18 rfl (lv_at hl 0 rfl) ?_
      refine lv_iload_n hx hb dX10_digestOfName_19 rfl (lv_at hl 1 rfl) ?_
      refine lv_iload hx hb dX10_digestOfName_20 (lv_at hl 2 rfl) ?_
      refine lv_iload hx hb dX10_digestOfName_22 (lv_at hl 4 rfl) ?_
      obtain ⟨r111, hq110, h⟩ := bnd_some h
      refine r_callVI X.1 hl hH (As := [.int x3, .int x4, .int x7]) (rest := [.long (x5 * (31 : Int64))]) (c_X10_within l X.1.2.2.2.2.2.2.1 σ x3 x4 x7 _ hq110) (cw_V X.1 3 mw_662 mw_659 mw_660 mw_661 mw_2 rfl rfl (by decide +kernel) ⟨Nat.le_of_ble_eq_true rfl, Nat.le_of_ble_eq_true rfl⟩) (r_recv X.1 hH (by decide) rfl rfl) rfl rfl (Nat.le_of_ble_eq_true rfl) dX10_digestOfName_24 ⟨Nat.zero_le _, Nat.zero_le _⟩ (fun H locs hH => ?_)
      refine lv_i2l (v := (r111 : Int32).toInt64) hx hb dX10_digestOfName_27 rfl ?_
      refine lv_ladd hx hb dX10_digestOfName_28 ?_
      refine lv_lstore (lv' := [(5, .long ((x5 * (31 : Int64)) + ((r111 : Int32).toInt64))), (0, .ref (adr Γ 0)), (3, .int x3), (4, .int x4), (7, .int x7)]) hx hb dX10_digestOfName_29 hl (by decide) rfl (fun ls hl => ?_)
      refine lv_iinc (v := x7 + 1) (lv' := [(7, .int (x7 + 1)), (5, .long ((x5 * (31 : Int64)) + ((r111 : Int32).toInt64))), (0, .ref (adr Γ 0)), (3, .int x3), (4, .int x4)]) hx hb dX10_digestOfName_31 hl (k := 4) rfl rfl (by decide) rfl (fun ls hl => ?_)
      refine lv_goto (tgt := 6) hx hb dX10_digestOfName_34 (by decide) ?_
      exact ih σ ((x5 * (31 : Int64)) + ((r111 : Int32).toInt64)) (x7 + 1) h _ _ _ hH (lv_sub hl [2, 3, 4, 1, 0] rfl)
/-- CutoffMill.digestOfName(JII)J -/
def m_X10_digestOfName (σ : Sg) (x1 : Int64) (x3 : Int32) (x4 : Int32) : Option (Sg × Int64) := m_X10_digestOfName_6 x1 x3 x4 1000 σ x1 0
set_option maxHeartbeats 4000000 in
set_option maxRecDepth 100000 in
theorem c_X10_digestOfName (l : Launch) {Γ : GG} (hJ : IJ Γ) (σ : Sg) (x1 : Int64) (x3 : Int32) (x4 : Int32) (σf : Sg) (rf : Int64) (h : m_X10_digestOfName σ x1 x3 x4 = some (σf, rf)) : CL l yX10_digestOfName (wy yX10_digestOfName cX10_digestOfName 8 (some .long)) { frames := 3, cells := 0, slots := 0, locals := 72 } Γ σ [.ref (adr Γ 0), .long x1, .int x3, .int x4] σf rf := by
  refine met_of (by decide +kernel) hJ (Nat.le_of_ble_eq_true rfl) (fun p e s m below meth c ls X hH hl => ?_)
  have hl : lv_has ls 8 [(0, .ref (adr Γ 0)), (1, .long x1), (3, .int x3), (4, .int x4)] := hl
  have hx := X.1.1
  have hb := X.1.2.1
  rw [m_X10_digestOfName] at h
  refine lv_lload_n hx hb dX10_digestOfName_0 rfl (lv_at hl 1 rfl) ?_
  refine lv_lstore (lv' := [(5, .long x1), (0, .ref (adr Γ 0)), (1, .long x1), (3, .int x3), (4, .int x4)]) hx hb dX10_digestOfName_1 hl (by decide) rfl (fun ls hl => ?_)
  refine lv_iconst (v := 0) hx hb dX10_digestOfName_3 (by decide) ?_
  refine lv_istore (lv' := [(7, .int 0), (5, .long x1), (0, .ref (adr Γ 0)), (1, .long x1), (3, .int x3), (4, .int x4)]) hx hb dX10_digestOfName_4 hl (by decide) rfl (fun ls hl => ?_)
  exact b_X10_digestOfName_6 X x1 x3 x4  1000 σ x1 0 h _ _ _ hH (lv_sub hl [2, 4, 5, 1, 0] rfl)
def m_X10_digestOfModule_71 (x1 : Int64) (x3 : Int32)  : Nat → Sg → Int64 → Int32 → Option (Sg × Int64)
  | 0, _, _, _ => none
  | n + 1, σ, x4, x6 => if 16 ≤ x6 then some (σ, x4) else bnd2 (m_X10_digestOfName σ x4 x3 x6) (fun σ103 r102 => m_X10_digestOfModule_71 x1 x3 n σ103 r102 (x6 + 1))
set_option maxHeartbeats 4000000 in
set_option maxRecDepth 100000 in
theorem b_X10_digestOfModule_71 {p : Program} {l : Launch} {e : Env} {s : State} {m : MethodId} {args : Array Value} {below : List Frame} {meth : Method} {c : Code} {Γ : GG} (X : MB Γ p s m args meth c cX10_digestOfModule 7 RX10 (some .long)) {σf : Sg} {rf : Int64} (x1 : Int64) (x3 : Int32) : ∀ (n : Nat), (∀ (σ : Sg) (x4 : Int64) (x6 : Int32), (m_X10_digestOfModule_71 x1 x3 n) σ x4 x6 = some (σf, rf) → ∀ (H : Heap) (locs : List Loc) (ls : Array Slot), HW (IA Γ) Γ σ s.heap H locs → lv_has ls 7 [(0, .ref (adr Γ 0)), (3, .int x3), (4, .long x4), (6, .int x6)] → W p l e ({ frames := 5, cells := 0, slots := 0, locals := 113 } : Room) s m args below meth c H locs 0 0 (QL Γ σf rf below args s) (F0 m 71 ls [])) := by
  have hx := X.1.1
  have hb := X.1.2.1
  intro n
  induction n with
  | zero => intro σ x4 x6 h; rw [m_X10_digestOfModule_71] at h; cases h
  | succ n ih =>
    intro σ x4 x6 h H locs ls hH hl
    rw [m_X10_digestOfModule_71] at h
    refine lv_iload hx hb dX10_digestOfModule_71 (lv_at hl 3 rfl) ?_
    refine lv_bipush (v := 16) hx hb dX10_digestOfModule_73 (by decide) ?_
    refine lv_icmp_ge (tgt := 95) hx hb dX10_digestOfModule_75 (by decide) (fun hc => ?_) (fun hc => ?_)
    · replace h := if_t h hc
      refine lv_lload hx hb dX10_digestOfModule_95 (lv_at hl 2 rfl) ?_
      cases h
      exact e_long X hH dX10_digestOfModule_97
    · replace h := if_f h hc
      refine lv_aload_n hx hb dX10_digestOfModule_78 rfl (lv_at hl 0 rfl) ?_
      refine lv_lload hx hb dX10_digestOfModule_79 (lv_at hl 2 rfl) ?_
      refine lv_iload_n hx hb dX10_digestOfModule_81 rfl (lv_at hl 1 rfl) ?_
      refine lv_iload hx hb dX10_digestOfModule_82 (lv_at hl 3 rfl) ?_
      obtain ⟨σ103, r102, hq101, h⟩ := bnd2_some h
      refine r_callVL X.1 hl hH (As := [.long x4, .int x3, .int x6]) (rest := []) (c_X10_digestOfName l X.1.2.2.2.2.2.2.1 σ x4 x3 x6 _ _ hq101) (cw_V X.1 3 mw_658 mw_655 mw_656 mw_657 mw_2 rfl rfl (by decide +kernel) ⟨Nat.le_of_ble_eq_true rfl, Nat.le_of_ble_eq_true rfl⟩) (r_recv X.1 hH (by decide) rfl rfl) rfl rfl (Nat.le_of_ble_eq_true rfl) dX10_digestOfModule_84 ⟨Nat.zero_le _, Nat.zero_le _⟩ (fun H locs hH => ?_)
      refine lv_lstore (lv' := [(4, .long r102), (0, .ref (adr Γ 0)), (3, .int x3), (6, .int x6)]) hx hb dX10_digestOfModule_87 hl (by decide) rfl (fun ls hl => ?_)
      refine lv_iinc (v := x6 + 1) (lv' := [(6, .int (x6 + 1)), (4, .long r102), (0, .ref (adr Γ 0)), (3, .int x3)]) hx hb dX10_digestOfModule_89 hl (k := 3) rfl rfl (by decide) rfl (fun ls hl => ?_)
      refine lv_goto (tgt := 71) hx hb dX10_digestOfModule_92 (by decide) ?_
      exact ih σ103 r102 (x6 + 1) h _ _ _ hH (lv_sub hl [2, 3, 1, 0] rfl)
def m_X10_digestOfModule_39 (x1 : Int64) (x3 : Int32)  : Nat → Sg → Int64 → Int32 → Option (Sg × Int64)
  | 0, _, _, _ => none
  | n + 1, σ, x4, x6 => if 3 < x6 then m_X10_digestOfModule_71 x1 x3 1000 σ x4 0 else bnd (m_X10_why σ x3 x6) (fun r105 => m_X10_digestOfModule_39 x1 x3 n σ ((x4 * (31 : Int64)) + ((r105 : Int32).toInt64)) (x6 + 1))
set_option maxHeartbeats 4000000 in
set_option maxRecDepth 100000 in
theorem b_X10_digestOfModule_39 {p : Program} {l : Launch} {e : Env} {s : State} {m : MethodId} {args : Array Value} {below : List Frame} {meth : Method} {c : Code} {Γ : GG} (X : MB Γ p s m args meth c cX10_digestOfModule 7 RX10 (some .long)) {σf : Sg} {rf : Int64} (x1 : Int64) (x3 : Int32) : ∀ (n : Nat), (∀ (σ : Sg) (x4 : Int64) (x6 : Int32), (m_X10_digestOfModule_39 x1 x3 n) σ x4 x6 = some (σf, rf) → ∀ (H : Heap) (locs : List Loc) (ls : Array Slot), HW (IA Γ) Γ σ s.heap H locs → lv_has ls 7 [(0, .ref (adr Γ 0)), (3, .int x3), (4, .long x4), (6, .int x6)] → W p l e ({ frames := 5, cells := 0, slots := 0, locals := 113 } : Room) s m args below meth c H locs 0 0 (QL Γ σf rf below args s) (F0 m 39 ls [])) := by
  have hx := X.1.1
  have hb := X.1.2.1
  intro n
  induction n with
  | zero => intro σ x4 x6 h; rw [m_X10_digestOfModule_39] at h; cases h
  | succ n ih =>
    intro σ x4 x6 h H locs ls hH hl
    rw [m_X10_digestOfModule_39] at h
    refine lv_iload hx hb dX10_digestOfModule_39 (lv_at hl 3 rfl) ?_
    refine lv_iconst (v := 3) hx hb dX10_digestOfModule_41 (by decide) ?_
    refine lv_icmp_gt (tgt := 68) hx hb dX10_digestOfModule_42 (by decide) (fun hc => ?_) (fun hc => ?_)
    · replace h := if_t h hc
      refine lv_iconst (v := 0) hx hb dX10_digestOfModule_68 (by decide) ?_
      refine lv_istore (lv' := [(6, .int 0), (0, .ref (adr Γ 0)), (3, .int x3), (4, .long x4)]) hx hb dX10_digestOfModule_69 hl (by decide) rfl (fun ls hl => ?_)
      exact b_X10_digestOfModule_71 X x1 x3  1000 σ x4 0 h _ _ _ hH (lv_sub hl [1, 2, 3, 0] rfl)
    · replace h := if_f h hc
      refine lv_lload hx hb dX10_digestOfModule_45 (lv_at hl 2 rfl) ?_
      refine lv_ldc2 (v := 31) hx hb X.1.2.2.2.1 (X.1.hts _ mw_638) dX10_digestOfModule_47 ?_
      refine lv_lmul hx hb dX10_digestOfModule_50 ?_
      refine lv_aload_n hx hb dX10_digestOfModule_51 rfl (lv_at hl 0 rfl) ?_
      refine lv_iload_n hx hb dX10_digestOfModule_52 rfl (lv_at hl 1 rfl) ?_
      refine lv_iload hx hb dX10_digestOfModule_53 (lv_at hl 3 rfl) ?_
      obtain ⟨r105, hq104, h⟩ := bnd_some h
      refine r_callVI X.1 hl hH (As := [.int x3, .int x6]) (rest := [.long (x4 * (31 : Int64))]) (c_X10_why l X.1.2.2.2.2.2.2.1 σ x3 x6 _ hq104) (cw_V X.1 2 mw_648 mw_645 mw_646 mw_647 mw_2 rfl rfl (by decide +kernel) ⟨Nat.le_of_ble_eq_true rfl, Nat.le_of_ble_eq_true rfl⟩) (r_recv X.1 hH (by decide) rfl rfl) rfl rfl (Nat.le_of_ble_eq_true rfl) dX10_digestOfModule_55 ⟨Nat.zero_le _, Nat.zero_le _⟩ (fun H locs hH => ?_)
      refine lv_i2l (v := (r105 : Int32).toInt64) hx hb dX10_digestOfModule_58 rfl ?_
      refine lv_ladd hx hb dX10_digestOfModule_59 ?_
      refine lv_lstore (lv' := [(4, .long ((x4 * (31 : Int64)) + ((r105 : Int32).toInt64))), (0, .ref (adr Γ 0)), (3, .int x3), (6, .int x6)]) hx hb dX10_digestOfModule_60 hl (by decide) rfl (fun ls hl => ?_)
      refine lv_iinc (v := x6 + 1) (lv' := [(6, .int (x6 + 1)), (4, .long ((x4 * (31 : Int64)) + ((r105 : Int32).toInt64))), (0, .ref (adr Γ 0)), (3, .int x3)]) hx hb dX10_digestOfModule_62 hl (k := 3) rfl rfl (by decide) rfl (fun ls hl => ?_)
      refine lv_goto (tgt := 39) hx hb dX10_digestOfModule_65 (by decide) ?_
      exact ih σ ((x4 * (31 : Int64)) + ((r105 : Int32).toInt64)) (x6 + 1) h _ _ _ hH (lv_sub hl [2, 3, 1, 0] rfl)
def m_X10_digestOfModule_6 (x1 : Int64) (x3 : Int32)  : Nat → Sg → Int64 → Int32 → Option (Sg × Int64)
  | 0, _, _, _ => none
  | n + 1, σ, x4, x6 => if 8 < x6 then m_X10_digestOfModule_39 x1 x3 1000 σ x4 0 else bnd (m_X10_ofModule σ x3 x6) (fun r108 => m_X10_digestOfModule_6 x1 x3 n σ ((x4 * (31 : Int64)) + ((r108 : Int32).toInt64)) (x6 + 1))
set_option maxHeartbeats 4000000 in
set_option maxRecDepth 100000 in
theorem b_X10_digestOfModule_6 {p : Program} {l : Launch} {e : Env} {s : State} {m : MethodId} {args : Array Value} {below : List Frame} {meth : Method} {c : Code} {Γ : GG} (X : MB Γ p s m args meth c cX10_digestOfModule 7 RX10 (some .long)) {σf : Sg} {rf : Int64} (x1 : Int64) (x3 : Int32) : ∀ (n : Nat), (∀ (σ : Sg) (x4 : Int64) (x6 : Int32), (m_X10_digestOfModule_6 x1 x3 n) σ x4 x6 = some (σf, rf) → ∀ (H : Heap) (locs : List Loc) (ls : Array Slot), HW (IA Γ) Γ σ s.heap H locs → lv_has ls 7 [(0, .ref (adr Γ 0)), (3, .int x3), (4, .long x4), (6, .int x6)] → W p l e ({ frames := 5, cells := 0, slots := 0, locals := 113 } : Room) s m args below meth c H locs 0 0 (QL Γ σf rf below args s) (F0 m 6 ls [])) := by
  have hx := X.1.1
  have hb := X.1.2.1
  intro n
  induction n with
  | zero => intro σ x4 x6 h; rw [m_X10_digestOfModule_6] at h; cases h
  | succ n ih =>
    intro σ x4 x6 h H locs ls hH hl
    rw [m_X10_digestOfModule_6] at h
    refine lv_iload hx hb dX10_digestOfModule_6 (lv_at hl 3 rfl) ?_
    refine lv_bipush (v := 8) hx hb dX10_digestOfModule_8 (by decide) ?_
    refine lv_icmp_gt (tgt := 36) hx hb dX10_digestOfModule_10 (by decide) (fun hc => ?_) (fun hc => ?_)
    · replace h := if_t h hc
      refine lv_iconst (v := 0) hx hb dX10_digestOfModule_36 (by decide) ?_
      refine lv_istore (lv' := [(6, .int 0), (0, .ref (adr Γ 0)), (3, .int x3), (4, .long x4)]) hx hb dX10_digestOfModule_37 hl (by decide) rfl (fun ls hl => ?_)
      exact b_X10_digestOfModule_39 X x1 x3  1000 σ x4 0 h _ _ _ hH (lv_sub hl [1, 2, 3, 0] rfl)
    · replace h := if_f h hc
      refine lv_lload hx hb dX10_digestOfModule_13 (lv_at hl 2 rfl) ?_
      refine lv_ldc2 (v := 31) hx hb X.1.2.2.2.1 (X.1.hts _ mw_638) dX10_digestOfModule_15 ?_
      refine lv_lmul hx hb dX10_digestOfModule_18 ?_
      refine lv_aload_n hx hb dX10_digestOfModule_19 rfl (lv_at hl 0 rfl) ?_
      refine lv_iload_n hx hb dX10_digestOfModule_20 rfl (lv_at hl 1 rfl) ?_
      refine lv_iload hx hb dX10_digestOfModule_21 (lv_at hl 3 rfl) ?_
      obtain ⟨r108, hq107, h⟩ := bnd_some h
      refine r_callVI X.1 hl hH (As := [.int x3, .int x6]) (rest := [.long (x4 * (31 : Int64))]) (c_X10_ofModule l X.1.2.2.2.2.2.2.1 σ x3 x6 _ hq107) (cw_V X.1 2 mw_255 mw_644 mw_253 mw_254 mw_2 rfl rfl (by decide +kernel) ⟨Nat.le_of_ble_eq_true rfl, Nat.le_of_ble_eq_true rfl⟩) (r_recv X.1 hH (by decide) rfl rfl) rfl rfl (Nat.le_of_ble_eq_true rfl) dX10_digestOfModule_23 ⟨Nat.zero_le _, Nat.zero_le _⟩ (fun H locs hH => ?_)
      refine lv_i2l (v := (r108 : Int32).toInt64) hx hb dX10_digestOfModule_26 rfl ?_
      refine lv_ladd hx hb dX10_digestOfModule_27 ?_
      refine lv_lstore (lv' := [(4, .long ((x4 * (31 : Int64)) + ((r108 : Int32).toInt64))), (0, .ref (adr Γ 0)), (3, .int x3), (6, .int x6)]) hx hb dX10_digestOfModule_28 hl (by decide) rfl (fun ls hl => ?_)
      refine lv_iinc (v := x6 + 1) (lv' := [(6, .int (x6 + 1)), (4, .long ((x4 * (31 : Int64)) + ((r108 : Int32).toInt64))), (0, .ref (adr Γ 0)), (3, .int x3)]) hx hb dX10_digestOfModule_30 hl (k := 3) rfl rfl (by decide) rfl (fun ls hl => ?_)
      refine lv_goto (tgt := 6) hx hb dX10_digestOfModule_33 (by decide) ?_
      exact ih σ ((x4 * (31 : Int64)) + ((r108 : Int32).toInt64)) (x6 + 1) h _ _ _ hH (lv_sub hl [2, 3, 1, 0] rfl)
/-- CutoffMill.digestOfModule(JI)J -/
def m_X10_digestOfModule (σ : Sg) (x1 : Int64) (x3 : Int32) : Option (Sg × Int64) := m_X10_digestOfModule_6 x1 x3 1000 σ x1 0
set_option maxHeartbeats 4000000 in
set_option maxRecDepth 100000 in
theorem c_X10_digestOfModule (l : Launch) {Γ : GG} (hJ : IJ Γ) (σ : Sg) (x1 : Int64) (x3 : Int32) (σf : Sg) (rf : Int64) (h : m_X10_digestOfModule σ x1 x3 = some (σf, rf)) : CL l yX10_digestOfModule (wy yX10_digestOfModule cX10_digestOfModule 7 (some .long)) { frames := 5, cells := 0, slots := 0, locals := 113 } Γ σ [.ref (adr Γ 0), .long x1, .int x3] σf rf := by
  refine met_of (by decide +kernel) hJ (Nat.le_of_ble_eq_true rfl) (fun p e s m below meth c ls X hH hl => ?_)
  have hl : lv_has ls 7 [(0, .ref (adr Γ 0)), (1, .long x1), (3, .int x3)] := hl
  have hx := X.1.1
  have hb := X.1.2.1
  rw [m_X10_digestOfModule] at h
  refine lv_lload_n hx hb dX10_digestOfModule_0 rfl (lv_at hl 1 rfl) ?_
  refine lv_lstore (lv' := [(4, .long x1), (0, .ref (adr Γ 0)), (1, .long x1), (3, .int x3)]) hx hb dX10_digestOfModule_1 hl (by decide) rfl (fun ls hl => ?_)
  refine lv_iconst (v := 0) hx hb dX10_digestOfModule_3 (by decide) ?_
  refine lv_istore (lv' := [(6, .int 0), (4, .long x1), (0, .ref (adr Γ 0)), (1, .long x1), (3, .int x3)]) hx hb dX10_digestOfModule_4 hl (by decide) rfl (fun ls hl => ?_)
  exact b_X10_digestOfModule_6 X x1 x3  1000 σ x1 0 h _ _ _ hH (lv_sub hl [2, 4, 1, 0] rfl)
def m_X10_digest_77  (k68 : Sg → Int64 → Int32 → Int32 → Option (Sg × Int64)) : Nat → Sg → Int64 → Int32 → Int32 → Int32 → Option (Sg × Int64)
  | 0, _, _, _, _, _ => none
  | n + 1, σ, x1, x3, x4, x5 => if 2 < x5 then k68 σ x1 x3 (x4 + 1) else bnd (m_X10_fault σ x4 x5) (fun r117 => m_X10_digest_77  k68 n σ ((x1 * (31 : Int64)) + ((r117 : Int32).toInt64)) x3 x4 (x5 + 1))
set_option maxHeartbeats 4000000 in
set_option maxRecDepth 100000 in
theorem b_X10_digest_77 {p : Program} {l : Launch} {e : Env} {s : State} {m : MethodId} {args : Array Value} {below : List Frame} {meth : Method} {c : Code} {Γ : GG} (X : MB Γ p s m args meth c cX10_digest 6 RX10 (some .long)) {σf : Sg} {rf : Int64}  (k68 : Sg → Int64 → Int32 → Int32 → Option (Sg × Int64)) (hk68 : (∀ (σ : Sg) (x1 : Int64) (x3 : Int32) (x4 : Int32), k68 σ x1 x3 x4 = some (σf, rf) → ∀ (H : Heap) (locs : List Loc) (ls : Array Slot), HW (IA Γ) Γ σ s.heap H locs → lv_has ls 6 [(0, .ref (adr Γ 0)), (1, .long x1), (3, .int x3), (4, .int x4)] → W p l e ({ frames := 7, cells := 0, slots := 0, locals := 177 } : Room) s m args below meth c H locs 0 0 (QL Γ σf rf below args s) (F0 m 68 ls []))) : ∀ (n : Nat), (∀ (σ : Sg) (x1 : Int64) (x3 : Int32) (x4 : Int32) (x5 : Int32), (m_X10_digest_77  k68 n) σ x1 x3 x4 x5 = some (σf, rf) → ∀ (H : Heap) (locs : List Loc) (ls : Array Slot), HW (IA Γ) Γ σ s.heap H locs → lv_has ls 6 [(0, .ref (adr Γ 0)), (1, .long x1), (3, .int x3), (4, .int x4), (5, .int x5)] → W p l e ({ frames := 7, cells := 0, slots := 0, locals := 177 } : Room) s m args below meth c H locs 0 0 (QL Γ σf rf below args s) (F0 m 77 ls [])) := by
  have hx := X.1.1
  have hb := X.1.2.1
  intro n
  induction n with
  | zero => intro σ x1 x3 x4 x5 h; rw [m_X10_digest_77] at h; cases h
  | succ n ih =>
    intro σ x1 x3 x4 x5 h H locs ls hH hl
    rw [m_X10_digest_77] at h
    refine lv_iload hx hb dX10_digest_77 (lv_at hl 4 rfl) ?_
    refine lv_iconst (v := 2) hx hb dX10_digest_79 (by decide) ?_
    refine lv_icmp_gt (tgt := 105) hx hb dX10_digest_80 (by decide) (fun hc => ?_) (fun hc => ?_)
    · replace h := if_t h hc
      refine lv_iinc (v := x4 + 1) (lv' := [(4, .int (x4 + 1)), (0, .ref (adr Γ 0)), (1, .long x1), (3, .int x3), (5, .int x5)]) hx hb dX10_digest_105 hl (k := 3) rfl rfl (by decide) rfl (fun ls hl => ?_)
      refine lv_goto (tgt := 68) hx hb dX10_digest_108 (by decide) ?_
      exact hk68 σ x1 x3 (x4 + 1) h _ _ _ hH (lv_sub hl [1, 2, 3, 0] rfl)
    · replace h := if_f h hc
      refine lv_lload_n hx hb dX10_digest_83 rfl (lv_at hl 1 rfl) ?_
      refine lv_ldc2 (v := 31) hx hb X.1.2.2.2.1 (X.1.hts _ mw_638) dX10_digest_84 ?_
      refine lv_lmul hx hb dX10_digest_87 ?_
      refine lv_aload_n hx hb dX10_digest_88 rfl (lv_at hl 0 rfl) ?_
      refine lv_iload hx hb dX10_digest_89 (lv_at hl 3 rfl) ?_
      refine lv_iload hx hb dX10_digest_91 (lv_at hl 4 rfl) ?_
      obtain ⟨r117, hq116, h⟩ := bnd_some h
      refine r_callVI X.1 hl hH (As := [.int x4, .int x5]) (rest := [.long (x1 * (31 : Int64))]) (c_X10_fault l X.1.2.2.2.2.2.2.1 σ x4 x5 _ hq116) (cw_V X.1 2 mw_627 mw_671 mw_625 mw_626 mw_2 rfl rfl (by decide +kernel) ⟨Nat.le_of_ble_eq_true rfl, Nat.le_of_ble_eq_true rfl⟩) (r_recv X.1 hH (by decide) rfl rfl) rfl rfl (Nat.le_of_ble_eq_true rfl) dX10_digest_93 ⟨Nat.zero_le _, Nat.zero_le _⟩ (fun H locs hH => ?_)
      refine lv_i2l (v := (r117 : Int32).toInt64) hx hb dX10_digest_96 rfl ?_
      refine lv_ladd hx hb dX10_digest_97 ?_
      refine lv_lstore_n (lv' := [(1, .long ((x1 * (31 : Int64)) + ((r117 : Int32).toInt64))), (0, .ref (adr Γ 0)), (3, .int x3), (4, .int x4), (5, .int x5)]) hx hb dX10_digest_98 rfl hl (by decide) rfl (fun ls hl => ?_)
      refine lv_iinc (v := x5 + 1) (lv' := [(5, .int (x5 + 1)), (1, .long ((x1 * (31 : Int64)) + ((r117 : Int32).toInt64))), (0, .ref (adr Γ 0)), (3, .int x3), (4, .int x4)]) hx hb dX10_digest_99 hl (k := 4) rfl rfl (by decide) rfl (fun ls hl => ?_)
      refine lv_goto (tgt := 77) hx hb dX10_digest_102 (by decide) ?_
      exact ih σ ((x1 * (31 : Int64)) + ((r117 : Int32).toInt64)) x3 x4 (x5 + 1) h _ _ _ hH (lv_sub hl [2, 1, 3, 4, 0] rfl)
def m_X10_digest_68   : Nat → Sg → Int64 → Int32 → Int32 → Option (Sg × Int64)
  | 0, _, _, _, _ => none
  | n + 1, σ, x1, x3, x4 => if x3 ≤ x4 then bnd2 (m_X10_wouldBuild σ) (fun σ106 r105 => bnd2 (m_X10_rounds σ106 1) (fun σ109 r108 => bnd2 (m_X10_rounds σ109 2) (fun σ112 r111 => bnd (m_X10_isAsNew σ112) (fun r114 => if r114 = 0 then some (σ112, (((((((x1 * (31 : Int64)) + ((r105 : Int32).toInt64)) * (31 : Int64)) + ((r108 : Int32).toInt64)) * (31 : Int64)) + ((r111 : Int32).toInt64)) * (31 : Int64)) + ((0 : Int32).toInt64)) else some (σ112, (((((((x1 * (31 : Int64)) + ((r105 : Int32).toInt64)) * (31 : Int64)) + ((r108 : Int32).toInt64)) * (31 : Int64)) + ((r111 : Int32).toInt64)) * (31 : Int64)) + ((1 : Int32).toInt64)))))) else m_X10_digest_77  (m_X10_digest_68  n) 1000 σ x1 x3 x4 0
set_option maxHeartbeats 4000000 in
set_option maxRecDepth 100000 in
theorem b_X10_digest_68 {p : Program} {l : Launch} {e : Env} {s : State} {m : MethodId} {args : Array Value} {below : List Frame} {meth : Method} {c : Code} {Γ : GG} (X : MB Γ p s m args meth c cX10_digest 6 RX10 (some .long)) {σf : Sg} {rf : Int64}  : ∀ (n : Nat), (∀ (σ : Sg) (x1 : Int64) (x3 : Int32) (x4 : Int32), (m_X10_digest_68  n) σ x1 x3 x4 = some (σf, rf) → ∀ (H : Heap) (locs : List Loc) (ls : Array Slot), HW (IA Γ) Γ σ s.heap H locs → lv_has ls 6 [(0, .ref (adr Γ 0)), (1, .long x1), (3, .int x3), (4, .int x4)] → W p l e ({ frames := 7, cells := 0, slots := 0, locals := 177 } : Room) s m args below meth c H locs 0 0 (QL Γ σf rf below args s) (F0 m 68 ls [])) := by
  have hx := X.1.1
  have hb := X.1.2.1
  intro n
  induction n with
  | zero => intro σ x1 x3 x4 h; rw [m_X10_digest_68] at h; cases h
  | succ n ih =>
    intro σ x1 x3 x4 h H locs ls hH hl
    rw [m_X10_digest_68] at h
    refine lv_iload hx hb dX10_digest_68 (lv_at hl 3 rfl) ?_
    refine lv_iload_n hx hb dX10_digest_70 rfl (lv_at hl 2 rfl) ?_
    refine lv_icmp_ge (tgt := 111) hx hb dX10_digest_71 (by decide) (fun hc => ?_) (fun hc => ?_)
    · replace h := if_t h hc
      refine lv_lload_n hx hb dX10_digest_111 rfl (lv_at hl 1 rfl) ?_
      refine lv_ldc2 (v := 31) hx hb X.1.2.2.2.1 (X.1.hts _ mw_638) dX10_digest_112 ?_
      refine lv_lmul hx hb dX10_digest_115 ?_
      refine lv_aload_n hx hb dX10_digest_116 rfl (lv_at hl 0 rfl) ?_
      obtain ⟨σ106, r105, hq104, h⟩ := bnd2_some h
      refine r_callVI X.1 hl hH (As := []) (rest := [.long (x1 * (31 : Int64))]) (c_X10_wouldBuild l X.1.2.2.2.2.2.2.1 σ  _ _ hq104) (cw_V X.1 0 mw_366 mw_672 mw_364 mw_365 mw_2 rfl rfl (by decide +kernel) ⟨Nat.le_of_ble_eq_true rfl, Nat.le_of_ble_eq_true rfl⟩) (r_recv X.1 hH (by decide) rfl rfl) rfl rfl (Nat.le_of_ble_eq_true rfl) dX10_digest_117 ⟨Nat.zero_le _, Nat.zero_le _⟩ (fun H locs hH => ?_)
      refine lv_i2l (v := (r105 : Int32).toInt64) hx hb dX10_digest_120 rfl ?_
      refine lv_ladd hx hb dX10_digest_121 ?_
      refine lv_lstore_n (lv' := [(1, .long ((x1 * (31 : Int64)) + ((r105 : Int32).toInt64))), (0, .ref (adr Γ 0)), (3, .int x3), (4, .int x4)]) hx hb dX10_digest_122 rfl hl (by decide) rfl (fun ls hl => ?_)
      refine lv_lload_n hx hb dX10_digest_123 rfl (lv_at hl 0 rfl) ?_
      refine lv_ldc2 (v := 31) hx hb X.1.2.2.2.1 (X.1.hts _ mw_638) dX10_digest_124 ?_
      refine lv_lmul hx hb dX10_digest_127 ?_
      refine lv_aload_n hx hb dX10_digest_128 rfl (lv_at hl 1 rfl) ?_
      refine lv_iconst (v := 1) hx hb dX10_digest_129 (by decide) ?_
      obtain ⟨σ109, r108, hq107, h⟩ := bnd2_some h
      refine r_callVI X.1 hl hH (As := [.int 1]) (rest := [.long (((x1 * (31 : Int64)) + ((r105 : Int32).toInt64)) * (31 : Int64))]) (c_X10_rounds l X.1.2.2.2.2.2.2.1 σ106 1 _ _ hq107) (cw_V X.1 1 mw_524 mw_673 mw_522 mw_523 mw_2 rfl rfl (by decide +kernel) ⟨Nat.le_of_ble_eq_true rfl, Nat.le_of_ble_eq_true rfl⟩) (r_recv X.1 hH (by decide) rfl rfl) rfl rfl (Nat.le_of_ble_eq_true rfl) dX10_digest_130 ⟨Nat.zero_le _, Nat.zero_le _⟩ (fun H locs hH => ?_)
      refine lv_i2l (v := (r108 : Int32).toInt64) hx hb dX10_digest_133 rfl ?_
      refine lv_ladd hx hb dX10_digest_134 ?_
      refine lv_lstore_n (lv' := [(1, .long ((((x1 * (31 : Int64)) + ((r105 : Int32).toInt64)) * (31 : Int64)) + ((r108 : Int32).toInt64))), (0, .ref (adr Γ 0)), (3, .int x3), (4, .int x4)]) hx hb dX10_digest_135 rfl hl (by decide) rfl (fun ls hl => ?_)
      refine lv_lload_n hx hb dX10_digest_136 rfl (lv_at hl 0 rfl) ?_
      refine lv_ldc2 (v := 31) hx hb X.1.2.2.2.1 (X.1.hts _ mw_638) dX10_digest_137 ?_
      refine lv_lmul hx hb dX10_digest_140 ?_
      refine lv_aload_n hx hb dX10_digest_141 rfl (lv_at hl 1 rfl) ?_
      refine lv_iconst (v := 2) hx hb dX10_digest_142 (by decide) ?_
      obtain ⟨σ112, r111, hq110, h⟩ := bnd2_some h
      refine r_callVI X.1 hl hH (As := [.int 2]) (rest := [.long (((((x1 * (31 : Int64)) + ((r105 : Int32).toInt64)) * (31 : Int64)) + ((r108 : Int32).toInt64)) * (31 : Int64))]) (c_X10_rounds l X.1.2.2.2.2.2.2.1 σ109 2 _ _ hq110) (cw_V X.1 1 mw_524 mw_673 mw_522 mw_523 mw_2 rfl rfl (by decide +kernel) ⟨Nat.le_of_ble_eq_true rfl, Nat.le_of_ble_eq_true rfl⟩) (r_recv X.1 hH (by decide) rfl rfl) rfl rfl (Nat.le_of_ble_eq_true rfl) dX10_digest_143 ⟨Nat.zero_le _, Nat.zero_le _⟩ (fun H locs hH => ?_)
      refine lv_i2l (v := (r111 : Int32).toInt64) hx hb dX10_digest_146 rfl ?_
      refine lv_ladd hx hb dX10_digest_147 ?_
      refine lv_lstore_n (lv' := [(1, .long ((((((x1 * (31 : Int64)) + ((r105 : Int32).toInt64)) * (31 : Int64)) + ((r108 : Int32).toInt64)) * (31 : Int64)) + ((r111 : Int32).toInt64))), (0, .ref (adr Γ 0)), (3, .int x3), (4, .int x4)]) hx hb dX10_digest_148 rfl hl (by decide) rfl (fun ls hl => ?_)
      refine lv_lload_n hx hb dX10_digest_149 rfl (lv_at hl 0 rfl) ?_
      refine lv_ldc2 (v := 31) hx hb X.1.2.2.2.1 (X.1.hts _ mw_638) dX10_digest_150 ?_
      refine lv_lmul hx hb dX10_digest_153 ?_
      refine lv_aload_n hx hb dX10_digest_154 rfl (lv_at hl 1 rfl) ?_
      obtain ⟨r114, hq113, h⟩ := bnd_some h
      refine r_callVI X.1 hl hH (As := []) (rest := [.long (((((((x1 * (31 : Int64)) + ((r105 : Int32).toInt64)) * (31 : Int64)) + ((r108 : Int32).toInt64)) * (31 : Int64)) + ((r111 : Int32).toInt64)) * (31 : Int64))]) (c_X10_isAsNew l X.1.2.2.2.2.2.2.1 σ112  _ hq113) (cw_V X.1 0 mw_585 mw_674 mw_583 mw_584 mw_2 rfl rfl (by decide +kernel) ⟨Nat.le_of_ble_eq_true rfl, Nat.le_of_ble_eq_true rfl⟩) (r_recv X.1 hH (by decide) rfl rfl) rfl rfl (Nat.le_of_ble_eq_true rfl) dX10_digest_155 ⟨Nat.zero_le _, Nat.zero_le _⟩ (fun H locs hH => ?_)
      refine lv_if_eq (tgt := 165) hx hb dX10_digest_158 (by decide) (fun hc => ?_) (fun hc => ?_)
      · replace h := if_t h hc
        refine lv_iconst (v := 0) hx hb dX10_digest_165 (by decide) ?_
        refine lv_i2l (v := (0 : Int32).toInt64) hx hb dX10_digest_166 rfl ?_
        refine lv_ladd hx hb dX10_digest_167 ?_
        cases h
        exact e_long X hH dX10_digest_168
      · replace h := if_f h hc
        refine lv_iconst (v := 1) hx hb dX10_digest_161 (by decide) ?_
        refine lv_goto (tgt := 166) hx hb dX10_digest_162 (by decide) ?_
        refine lv_i2l (v := (1 : Int32).toInt64) hx hb dX10_digest_166 rfl ?_
        refine lv_ladd hx hb dX10_digest_167 ?_
        cases h
        exact e_long X hH dX10_digest_168
    · replace h := if_f h hc
      refine lv_iconst (v := 0) hx hb dX10_digest_74 (by decide) ?_
      refine lv_istore (lv' := [(5, .int 0), (0, .ref (adr Γ 0)), (1, .long x1), (3, .int x3), (4, .int x4)]) hx hb dX10_digest_75 hl (by decide) rfl (fun ls hl => ?_)
      exact b_X10_digest_77 X  (m_X10_digest_68  n) ih 1000 σ x1 x3 x4 0 h _ _ _ hH (lv_sub hl [1, 2, 3, 4, 0] rfl)
def m_X10_digest_33   : Nat → Sg → Int64 → Int32 → Option (Sg × Int64)
  | 0, _, _, _ => none
  | n + 1, σ, x1, x3 => if (σ.1 29 0 0) ≤ x3 then bnd (m_X9_faultCount σ 0) (fun r102 => m_X10_digest_68  1000 σ x1 r102 0) else bnd2 (m_X10_digestOfModule σ x1 x3) (fun σ121 r120 => m_X10_digest_33  n σ121 r120 (x3 + 1))
set_option maxHeartbeats 4000000 in
set_option maxRecDepth 100000 in
theorem b_X10_digest_33 {p : Program} {l : Launch} {e : Env} {s : State} {m : MethodId} {args : Array Value} {below : List Frame} {meth : Method} {c : Code} {Γ : GG} (X : MB Γ p s m args meth c cX10_digest 6 RX10 (some .long)) {σf : Sg} {rf : Int64}  : ∀ (n : Nat), (∀ (σ : Sg) (x1 : Int64) (x3 : Int32), (m_X10_digest_33  n) σ x1 x3 = some (σf, rf) → ∀ (H : Heap) (locs : List Loc) (ls : Array Slot), HW (IA Γ) Γ σ s.heap H locs → lv_has ls 6 [(0, .ref (adr Γ 0)), (1, .long x1), (3, .int x3)] → W p l e ({ frames := 7, cells := 0, slots := 0, locals := 177 } : Room) s m args below meth c H locs 0 0 (QL Γ σf rf below args s) (F0 m 33 ls [])) := by
  have hx := X.1.1
  have hb := X.1.2.1
  intro n
  induction n with
  | zero => intro σ x1 x3 h; rw [m_X10_digest_33] at h; cases h
  | succ n ih =>
    intro σ x1 x3 h H locs ls hH hl
    rw [m_X10_digest_33] at h
    refine lv_iload_n hx hb dX10_digest_33 rfl (lv_at hl 2 rfl) ?_
    refine lv_aload_n hx hb dX10_digest_34 rfl (lv_at hl 0 rfl) ?_
    refine r_get X.1 hH (by decide) rfl rfl inlX10 0 (by decide) (v := .ref (adr Γ (kT 0))) rfl mw_13 dX10_digest_35 ?_
    refine r_get X.1 hH (kT_lt (by omega)) (dT0 _ (by omega)) rfl inlX8 3 (by decide) (v := .int (σ.1 29 0 0)) rfl mw_137 dX10_digest_38 ?_
    refine lv_icmp_ge (tgt := 57) hx hb dX10_digest_41 (by decide) (fun hc => ?_) (fun hc => ?_)
    · replace h := if_t h hc
      refine lv_aload_n hx hb dX10_digest_57 rfl (lv_at hl 0 rfl) ?_
      refine r_get X.1 hH (by decide) rfl rfl inlX10 3 (by decide) (v := .ref (adr Γ (kW 0))) rfl mw_25 dX10_digest_58 ?_
      obtain ⟨r102, hq101, h⟩ := bnd_some h
      refine r_callVI X.1 hl hH (As := []) (rest := []) (c_X9_faultCount l X.1.2.2.2.2.2.2.1 σ 0 (by omega) _ hq101) (cw_V X.1 0 mw_560 mw_557 mw_558 mw_559 mw_24 rfl rfl (by decide +kernel) ⟨Nat.le_of_ble_eq_true rfl, Nat.le_of_ble_eq_true rfl⟩) (r_recv X.1 hH (kW_lt (by omega)) (dW0 _ (by omega)) rfl) rfl rfl (Nat.le_of_ble_eq_true rfl) dX10_digest_61 ⟨Nat.zero_le _, Nat.zero_le _⟩ (fun H locs hH => ?_)
      refine lv_istore_n (lv' := [(3, .int r102), (0, .ref (adr Γ 0)), (1, .long x1)]) hx hb dX10_digest_64 rfl hl (by decide) rfl (fun ls hl => ?_)
      refine lv_iconst (v := 0) hx hb dX10_digest_65 (by decide) ?_
      refine lv_istore (lv' := [(4, .int 0), (3, .int r102), (0, .ref (adr Γ 0)), (1, .long x1)]) hx hb dX10_digest_66 hl (by decide) rfl (fun ls hl => ?_)
      exact b_X10_digest_68 X   1000 σ x1 r102 0 h _ _ _ hH (lv_sub hl [2, 3, 1, 0] rfl)
    · replace h := if_f h hc
      refine lv_aload_n hx hb dX10_digest_44 rfl (lv_at hl 0 rfl) ?_
      refine lv_lload_n hx hb dX10_digest_45 rfl (lv_at hl 1 rfl) ?_
      refine lv_iload_n hx hb dX10_digest_46 rfl (lv_at hl 2 rfl) ?_
      obtain ⟨σ121, r120, hq119, h⟩ := bnd2_some h
      refine r_callVL X.1 hl hH (As := [.long x1, .int x3]) (rest := []) (c_X10_digestOfModule l X.1.2.2.2.2.2.2.1 σ x1 x3 _ _ hq119) (cw_V X.1 2 mw_643 mw_640 mw_641 mw_642 mw_2 rfl rfl (by decide +kernel) ⟨Nat.le_of_ble_eq_true rfl, Nat.le_of_ble_eq_true rfl⟩) (r_recv X.1 hH (by decide) rfl rfl) rfl rfl (Nat.le_of_ble_eq_true rfl) dX10_digest_47 ⟨Nat.zero_le _, Nat.zero_le _⟩ (fun H locs hH => ?_)
      refine lv_lstore_n (lv' := [(1, .long r120), (0, .ref (adr Γ 0)), (3, .int x3)]) hx hb dX10_digest_50 rfl hl (by decide) rfl (fun ls hl => ?_)
      refine lv_iinc (v := x3 + 1) (lv' := [(3, .int (x3 + 1)), (1, .long r120), (0, .ref (adr Γ 0))]) hx hb dX10_digest_51 hl (k := 2) rfl rfl (by decide) rfl (fun ls hl => ?_)
      refine lv_goto (tgt := 33) hx hb dX10_digest_54 (by decide) ?_
      exact ih σ121 r120 (x3 + 1) h _ _ _ hH (lv_sub hl [2, 1, 0] rfl)
def m_X10_digest_6   : Nat → Sg → Int64 → Int32 → Option (Sg × Int64)
  | 0, _, _, _ => none
  | n + 1, σ, x1, x3 => if 9 < x3 then m_X10_digest_33  1000 σ x1 0 else bnd (m_X10_many σ x3) (fun r123 => m_X10_digest_6  n σ ((x1 * (31 : Int64)) + ((r123 : Int32).toInt64)) (x3 + 1))
set_option maxHeartbeats 4000000 in
set_option maxRecDepth 100000 in
theorem b_X10_digest_6 {p : Program} {l : Launch} {e : Env} {s : State} {m : MethodId} {args : Array Value} {below : List Frame} {meth : Method} {c : Code} {Γ : GG} (X : MB Γ p s m args meth c cX10_digest 6 RX10 (some .long)) {σf : Sg} {rf : Int64}  : ∀ (n : Nat), (∀ (σ : Sg) (x1 : Int64) (x3 : Int32), (m_X10_digest_6  n) σ x1 x3 = some (σf, rf) → ∀ (H : Heap) (locs : List Loc) (ls : Array Slot), HW (IA Γ) Γ σ s.heap H locs → lv_has ls 6 [(0, .ref (adr Γ 0)), (1, .long x1), (3, .int x3)] → W p l e ({ frames := 7, cells := 0, slots := 0, locals := 177 } : Room) s m args below meth c H locs 0 0 (QL Γ σf rf below args s) (F0 m 6 ls [])) := by
  have hx := X.1.1
  have hb := X.1.2.1
  intro n
  induction n with
  | zero => intro σ x1 x3 h; rw [m_X10_digest_6] at h; cases h
  | succ n ih =>
    intro σ x1 x3 h H locs ls hH hl
    rw [m_X10_digest_6] at h
    refine lv_iload_n hx hb dX10_digest_6 rfl (lv_at hl 2 rfl) ?_
    refine lv_bipush (v := 9) hx hb dX10_digest_7 (by decide) ?_
    refine lv_icmp_gt (tgt := 31) hx hb dX10_digest_9 (by decide) (fun hc => ?_) (fun hc => ?_)
    · replace h := if_t h hc
      refine lv_iconst (v := 0) hx hb dX10_digest_31 (by decide) ?_
      refine lv_istore_n (lv' := [(3, .int 0), (0, .ref (adr Γ 0)), (1, .long x1)]) hx hb dX10_digest_32 rfl hl (by decide) rfl (fun ls hl => ?_)
      exact b_X10_digest_33 X   1000 σ x1 0 h _ _ _ hH (lv_sub hl [1, 2, 0] rfl)
    · replace h := if_f h hc
      refine lv_lload_n hx hb dX10_digest_12 rfl (lv_at hl 1 rfl) ?_
      refine lv_ldc2 (v := 31) hx hb X.1.2.2.2.1 (X.1.hts _ mw_638) dX10_digest_13 ?_
      refine lv_lmul hx hb dX10_digest_16 ?_
      refine lv_aload_n hx hb dX10_digest_17 rfl (lv_at hl 0 rfl) ?_
      refine lv_iload_n hx hb dX10_digest_18 rfl (lv_at hl 2 rfl) ?_
      obtain ⟨r123, hq122, h⟩ := bnd_some h
      refine r_callVI X.1 hl hH (As := [.int x3]) (rest := [.long (x1 * (31 : Int64))]) (c_X10_many l X.1.2.2.2.2.2.2.1 σ x3 _ hq122) (cw_V X.1 1 mw_537 mw_639 mw_535 mw_536 mw_2 rfl rfl (by decide +kernel) ⟨Nat.le_of_ble_eq_true rfl, Nat.le_of_ble_eq_true rfl⟩) (r_recv X.1 hH (by decide) rfl rfl) rfl rfl (Nat.le_of_ble_eq_true rfl) dX10_digest_19 ⟨Nat.zero_le _, Nat.zero_le _⟩ (fun H locs hH => ?_)
      refine lv_i2l (v := (r123 : Int32).toInt64) hx hb dX10_digest_22 rfl ?_
      refine lv_ladd hx hb dX10_digest_23 ?_
      refine lv_lstore_n (lv' := [(1, .long ((x1 * (31 : Int64)) + ((r123 : Int32).toInt64))), (0, .ref (adr Γ 0)), (3, .int x3)]) hx hb dX10_digest_24 rfl hl (by decide) rfl (fun ls hl => ?_)
      refine lv_iinc (v := x3 + 1) (lv' := [(3, .int (x3 + 1)), (1, .long ((x1 * (31 : Int64)) + ((r123 : Int32).toInt64))), (0, .ref (adr Γ 0))]) hx hb dX10_digest_25 hl (k := 2) rfl rfl (by decide) rfl (fun ls hl => ?_)
      refine lv_goto (tgt := 6) hx hb dX10_digest_28 (by decide) ?_
      exact ih σ ((x1 * (31 : Int64)) + ((r123 : Int32).toInt64)) (x3 + 1) h _ _ _ hH (lv_sub hl [2, 1, 0] rfl)
/-- CutoffMill.digest()J -/
def m_X10_digest (σ : Sg)  : Option (Sg × Int64) := m_X10_digest_6  1000 σ 58138 0
set_option maxHeartbeats 4000000 in
set_option maxRecDepth 100000 in
theorem c_X10_digest (l : Launch) {Γ : GG} (hJ : IJ Γ) (σ : Sg)  (σf : Sg) (rf : Int64) (h : m_X10_digest σ  = some (σf, rf)) : CL l yX10_digest (wy yX10_digest cX10_digest 6 (some .long)) { frames := 7, cells := 0, slots := 0, locals := 177 } Γ σ [.ref (adr Γ 0)] σf rf := by
  refine met_of (by decide +kernel) hJ (Nat.le_of_ble_eq_true rfl) (fun p e s m below meth c ls X hH hl => ?_)
  have hl : lv_has ls 6 [(0, .ref (adr Γ 0))] := hl
  have hx := X.1.1
  have hb := X.1.2.1
  rw [m_X10_digest] at h
  refine lv_ldc2 (v := 58138) hx hb X.1.2.2.2.1 (X.1.hts _ mw_637) dX10_digest_0 ?_
  refine lv_lstore_n (lv' := [(1, .long 58138), (0, .ref (adr Γ 0))]) hx hb dX10_digest_3 rfl hl (by decide) rfl (fun ls hl => ?_)
  refine lv_iconst (v := 0) hx hb dX10_digest_4 (by decide) ?_
  refine lv_istore_n (lv' := [(3, .int 0), (1, .long 58138), (0, .ref (adr Γ 0))]) hx hb dX10_digest_5 rfl hl (by decide) rfl (fun ls hl => ?_)
  exact b_X10_digest_6 X   1000 σ 58138 0 h _ _ _ hH (lv_sub hl [2, 1, 0] rfl)
