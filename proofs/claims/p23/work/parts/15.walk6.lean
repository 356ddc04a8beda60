/-! WALKS, laid by wip/p23/gen.py: X7_put, X7_makeNewest, X7_holds, X9_isHeld, X9_freeResult, X8_copy, J7_fill_d0a16, X0_of, X5_setUnbuilt, X5_begin, X4_isWanted, X9_noteAnswers -/
def m_X7_put_26 (i0 : Nat) (i1 : Nat)  (σ : Sg) : Option Sg := chk (inb (σ.1 19 i0 0) (lenP 1 i0)) (st (wP σ 1 i0 (σ.1 19 i0 0).toNatClampNeg i1) (fun σ102 => st (wI σ102 19 i0 0 ((σ102.1 19 i0 0) + (1 : Int32))) (fun σ104 => some σ104)))
set_option maxHeartbeats 4000000 in
set_option maxRecDepth 100000 in
theorem b_X7_put_26 {p : Program} {l : Launch} {e : Env} {s : State} {m : MethodId} {args : Array Value} {below : List Frame} {meth : Method} {c : Code} {Γ : GG} (X : MB Γ p s m args meth c cX7_put 2 RX7 none) {σf : Sg} {rf : Unit} (i0 : Nat) (hi0 : i0 < 2) (i1 : Nat) (hi1 : i1 < 30) : (∀ (σ : Sg), (m_X7_put_26 i0 i1) σ = some σf → ∀ (H : Heap) (locs : List Loc) (ls : Array Slot), HW (IA Γ) Γ σ s.heap H locs → lv_has ls 2 [(0, .ref (adr Γ (kW i0 + 1))), (1, .ref (adr Γ (kR i1)))] → W p l e ({ frames := 1, cells := 0, slots := 0, locals := 22 } : Room) s m args below meth c H locs 0 0 (QV Γ σf rf below args s) (F0 m 26 ls [])) := by
  have hx := X.1.1
  have hb := X.1.2.1
  intro σ h H locs ls hH hl
  rw [m_X7_put_26] at h
  refine lv_aload_n hx hb dX7_put_26 rfl (lv_at hl 0 rfl) ?_
  refine r_get X.1 hH (lW _ hi0 1 (by decide)) (dW1 _ hi0) rfl inlX7 0 (by decide) (v := .ref (adr Γ (kW i0 + 2))) rfl mw_84 dX7_put_27 ?_
  refine lv_aload_n hx hb dX7_put_30 rfl (lv_at hl 0 rfl) ?_
  refine r_get X.1 hH (lW _ hi0 1 (by decide)) (dW1 _ hi0) rfl inlX7 1 (by decide) (v := .int (σ.1 19 i0 0)) rfl mw_405 dX7_put_31 ?_
  refine lv_aload_n hx hb dX7_put_34 rfl (lv_at hl 1 rfl) ?_
  obtain ⟨hg101, h⟩ := chk_some h
  obtain ⟨σ102, e103, h⟩ := st_some h
  refine r_ast X.1 hH (lW _ hi0 2 (by decide)) (dW2 _ hi0) hg101 hi1 dX7_put_35 (fun H locs hH => ?_)
  replace hH : HW (IA Γ) Γ σ102 s.heap H locs := by rw [e103]; exact hH
  refine lv_aload_n hx hb dX7_put_36 rfl (lv_at hl 0 rfl) ?_
  refine lv_dup hx hb dX7_put_37 rfl ?_
  refine r_get X.1 hH (lW _ hi0 1 (by decide)) (dW1 _ hi0) rfl inlX7 1 (by decide) (v := .int (σ102.1 19 i0 0)) rfl mw_405 dX7_put_38 ?_
  refine lv_iconst (v := 1) hx hb dX7_put_41 (by decide) ?_
  refine lv_iadd hx hb dX7_put_42 ?_
  obtain ⟨σ104, e105, h⟩ := st_some h
  refine r_putI X.1 hH (co := 19) (lW _ hi0 1 (by decide)) rfl (dW1 _ hi0) rfl inlX7 tyX7 tyX7_ok nmX7 (by decide) (Nat.le_of_ble_eq_true rfl) rfl (by decide +kernel) mw_405 dX7_put_43 (fun H locs hH => ?_)
  replace hH : HW (IA Γ) Γ σ104 s.heap H locs := by rw [e105]; exact hH
  cases h
  exact e_void (v := rf) X hH dX7_put_46
/-- CutoffMill$Store.put(LCutoffMill$Result;)V -/
def m_X7_put (σ : Sg) (i0 : Nat) (i1 : Nat) : Option Sg := if ((Int32.ofNat ((lenP 1 i0)))) = 0 then some σ else if (σ.1 19 i0 0) = ((Int32.ofNat ((lenP 1 i0)))) then bnd (m_X7_takeOut σ i0 0) (fun σ108 => m_X7_put_26 i0 i1 σ108) else m_X7_put_26 i0 i1 σ
set_option maxHeartbeats 4000000 in
set_option maxRecDepth 100000 in
theorem c_X7_put (l : Launch) {Γ : GG} (hJ : IJ Γ) (σ : Sg) (i0 : Nat) (hi0 : i0 < 2) (i1 : Nat) (hi1 : i1 < 30) (σf : Sg) (rf : Unit) (h : m_X7_put σ i0 i1 = some σf) : CV l yX7_put (wy yX7_put cX7_put 2 none) { frames := 1, cells := 0, slots := 0, locals := 22 } Γ σ [.ref (adr Γ (kW i0 + 1)), .ref (adr Γ (kR i1))] σf rf := by
  refine met_of (by decide +kernel) hJ (Nat.le_of_ble_eq_true rfl) (fun p e s m below meth c ls X hH hl => ?_)
  have hl : lv_has ls 2 [(0, .ref (adr Γ (kW i0 + 1))), (1, .ref (adr Γ (kR i1)))] := hl
  have hx := X.1.1
  have hb := X.1.2.1
  rw [m_X7_put] at h
  refine lv_aload_n hx hb dX7_put_0 rfl (lv_at hl 0 rfl) ?_
  refine r_get X.1 hH (lW _ hi0 1 (by decide)) (dW1 _ hi0) rfl inlX7 0 (by decide) (v := .ref (adr Γ (kW i0 + 2))) rfl mw_84 dX7_put_1 ?_
  refine r_len X.1 hH (v := (Int32.ofNat ((lenP 1 i0)))) (lW _ hi0 2 (by decide)) (dW2 _ hi0) (by decide) rfl dX7_put_4 ?_
  refine lv_if_ne (tgt := 9) hx hb dX7_put_5 (by decide) (fun hc => ?_) (fun hc => ?_)
  · replace h := if_f h hc
    refine lv_aload_n hx hb dX7_put_9 rfl (lv_at hl 0 rfl) ?_
    refine r_get X.1 hH (lW _ hi0 1 (by decide)) (dW1 _ hi0) rfl inlX7 1 (by decide) (v := .int (σ.1 19 i0 0)) rfl mw_405 dX7_put_10 ?_
    refine lv_aload_n hx hb dX7_put_13 rfl (lv_at hl 0 rfl) ?_
    refine r_get X.1 hH (lW _ hi0 1 (by decide)) (dW1 _ hi0) rfl inlX7 0 (by decide) (v := .ref (adr Γ (kW i0 + 2))) rfl mw_84 dX7_put_14 ?_
    refine r_len X.1 hH (v := (Int32.ofNat ((lenP 1 i0)))) (lW _ hi0 2 (by decide)) (dW2 _ hi0) (by decide) rfl dX7_put_17 ?_
    refine lv_icmp_ne (tgt := 26) hx hb dX7_put_18 (by decide) (fun hc => ?_) (fun hc => ?_)
    · replace h := if_f h hc
      exact b_X7_put_26 (rf := ()) X i0 hi0 i1 hi1  σ  h _ _ _ hH (lv_sub hl [0, 1] rfl)
    · replace h := if_t h hc
      refine lv_aload_n hx hb dX7_put_21 rfl (lv_at hl 0 rfl) ?_
      refine lv_iconst (v := 0) hx hb dX7_put_22 (by decide) ?_
      obtain ⟨σ108, hq106, h⟩ := bnd_some h
      refine r_callVV X.1 hl hH (r := ()) (As := [.int 0]) (rest := []) (c_X7_takeOut l X.1.2.2.2.2.2.2.1 σ i0 hi0 0 _ () hq106) (cw_V X.1 1 mw_404 mw_401 mw_402 mw_403 mw_69 rfl rfl (by decide +kernel) ⟨Nat.le_of_ble_eq_true rfl, Nat.le_of_ble_eq_true rfl⟩) (r_recv X.1 hH (lW _ hi0 1 (by decide)) (dW1 _ hi0) rfl) rfl rfl (Nat.le_of_ble_eq_true rfl) dX7_put_23 ⟨Nat.zero_le _, Nat.zero_le _⟩ (fun H locs hH => ?_)
      exact b_X7_put_26 (rf := ()) X i0 hi0 i1 hi1  σ108  h _ _ _ hH (lv_sub hl [0, 1] rfl)
  · replace h := if_t h hc
    cases h
    exact e_void (v := rf) X hH dX7_put_8
/-- CutoffMill$Store.makeNewest(I)V -/
def m_X7_makeNewest (σ : Sg) (i0 : Nat) (x1 : Int32) : Option Sg := chk (inb x1 (lenP 1 i0)) (bnd (σ.2.2 1 i0 x1.toNatClampNeg) (fun r102 => chk (decide (r102 < 30)) (bnd (m_X7_takeOut σ i0 x1) (fun σ106 => bnd (m_X7_put σ106 i0 r102) (fun σ109 => some σ109)))))
set_option maxHeartbeats 4000000 in
set_option maxRecDepth 100000 in
theorem c_X7_makeNewest (l : Launch) {Γ : GG} (hJ : IJ Γ) (σ : Sg) (i0 : Nat) (hi0 : i0 < 2) (x1 : Int32) (σf : Sg) (rf : Unit) (h : m_X7_makeNewest σ i0 x1 = some σf) : CV l yX7_makeNewest (wy yX7_makeNewest cX7_makeNewest 3 none) { frames := 2, cells := 0, slots := 0, locals := 43 } Γ σ [.ref (adr Γ (kW i0 + 1)), .int x1] σf rf := by
  refine met_of (by decide +kernel) hJ (Nat.le_of_ble_eq_true rfl) (fun p e s m below meth c ls X hH hl => ?_)
  have hl : lv_has ls 3 [(0, .ref (adr Γ (kW i0 + 1))), (1, .int x1)] := hl
  have hx := X.1.1
  have hb := X.1.2.1
  rw [m_X7_makeNewest] at h
  refine lv_aload_n hx hb dX7_makeNewest_0 rfl (lv_at hl 0 rfl) ?_
  refine r_get X.1 hH (lW _ hi0 1 (by decide)) (dW1 _ hi0) rfl inlX7 0 (by decide) (v := .ref (adr Γ (kW i0 + 2))) rfl mw_84 dX7_makeNewest_1 ?_
  refine lv_iload_n hx hb dX7_makeNewest_4 rfl (lv_at hl 1 rfl) ?_
  obtain ⟨hg101, h⟩ := chk_some h
  obtain ⟨r102, he103, h⟩ := bnd_some h
  obtain ⟨hr102, h⟩ := chk_some h
  replace hr102 := of_decide_eq_true hr102
  refine r_ald X.1 hH (lW _ hi0 2 (by decide)) (dW2 _ hi0) hg101 he103 dX7_makeNewest_5 ?_
  refine lv_astore_n (lv' := [(2, .ref (adr Γ (kR r102))), (0, .ref (adr Γ (kW i0 + 1))), (1, .int x1)]) hx hb dX7_makeNewest_6 rfl hl (by decide) rfl (fun ls hl => ?_)
  refine lv_aload_n hx hb dX7_makeNewest_7 rfl (lv_at hl 1 rfl) ?_
  refine lv_iload_n hx hb dX7_makeNewest_8 rfl (lv_at hl 2 rfl) ?_
  obtain ⟨σ106, hq104, h⟩ := bnd_some h
  refine r_callVV X.1 hl hH (r := ()) (As := [.int x1]) (rest := []) (c_X7_takeOut l X.1.2.2.2.2.2.2.1 σ i0 hi0 x1 _ () hq104) (cw_V X.1 1 mw_404 mw_401 mw_402 mw_403 mw_69 rfl rfl (by decide +kernel) ⟨Nat.le_of_ble_eq_true rfl, Nat.le_of_ble_eq_true rfl⟩) (r_recv X.1 hH (lW _ hi0 1 (by decide)) (dW1 _ hi0) rfl) rfl rfl (Nat.le_of_ble_eq_true rfl) dX7_makeNewest_9 ⟨Nat.zero_le _, Nat.zero_le _⟩ (fun H locs hH => ?_)
  refine lv_aload_n hx hb dX7_makeNewest_12 rfl (lv_at hl 1 rfl) ?_
  refine lv_aload_n hx hb dX7_makeNewest_13 rfl (lv_at hl 0 rfl) ?_
  obtain ⟨σ109, hq107, h⟩ := bnd_some h
  refine r_callVV X.1 hl hH (r := ()) (As := [.ref (adr Γ (kR r102))]) (rest := []) (c_X7_put l X.1.2.2.2.2.2.2.1 σ106 i0 hi0 r102 hr102 _ () hq107) (cw_V X.1 1 mw_409 mw_406 mw_407 mw_408 mw_69 rfl rfl (by decide +kernel) ⟨Nat.le_of_ble_eq_true rfl, Nat.le_of_ble_eq_true rfl⟩) (r_recv X.1 hH (lW _ hi0 1 (by decide)) (dW1 _ hi0) rfl) rfl rfl (Nat.le_of_ble_eq_true rfl) dX7_makeNewest_14 ⟨Nat.zero_le _, Nat.zero_le _⟩ (fun H locs hH => ?_)
  cases h
  exact e_void (v := rf) X hH dX7_makeNewest_17
def m_X7_holds_2 (σ : Sg) (i0 : Nat) (i1 : Nat)  : Nat → Int32 → Option Int32
  | 0, _ => none
  | n + 1, x2 => if (σ.1 19 i0 0) ≤ x2 then some 0 else chk (inb x2 (lenP 1 i0)) (bnd (σ.2.2 1 i0 x2.toNatClampNeg) (fun r102 => chk (decide (r102 < 30)) (if r102 = i1 then some 1 else m_X7_holds_2 σ i0 i1 n (x2 + 1))))
set_option maxHeartbeats 4000000 in
set_option maxRecDepth 100000 in
theorem b_X7_holds_2 {p : Program} {l : Launch} {e : Env} {s : State} {m : MethodId} {args : Array Value} {below : List Frame} {meth : Method} {c : Code} {Γ : GG} (X : MB Γ p s m args meth c cX7_holds 3 RX7 (some .boolean)) (σ : Sg) {rf : Int32} (i0 : Nat) (hi0 : i0 < 2) (i1 : Nat) (hi1 : i1 < 30) : ∀ (n : Nat), (∀ (x2 : Int32), (m_X7_holds_2 σ i0 i1 n) x2 = some rf → ∀ (H : Heap) (locs : List Loc) (ls : Array Slot), HW (IA Γ) Γ σ s.heap H locs → lv_has ls 3 [(0, .ref (adr Γ (kW i0 + 1))), (1, .ref (adr Γ (kR i1))), (2, .int x2)] → W p l e ({ frames := 0, cells := 0, slots := 0, locals := 0 } : Room) s m args below meth c H locs 0 0 (QI Γ σ rf below args s) (F0 m 2 ls [])) := by
  have hx := X.1.1
  have hb := X.1.2.1
  intro n
  induction n with
  | zero => intro x2 h; rw [m_X7_holds_2] at h; cases h
  | succ n ih =>
    intro x2 h H locs ls hH hl
    rw [m_X7_holds_2] at h
    refine lv_iload_n hx hb dX7_holds_2 rfl (lv_at hl 2 rfl) ?_
    refine lv_aload_n hx hb dX7_holds_3 rfl (lv_at hl 0 rfl) ?_
    refine r_get X.1 hH (lW _ hi0 1 (by decide)) (dW1 _ hi0) rfl inlX7 1 (by decide) (v := .int (σ.1 19 i0 0)) rfl mw_405 dX7_holds_4 ?_
    refine lv_icmp_ge (tgt := 28) hx hb dX7_holds_7 (by decide) (fun hc => ?_) (fun hc => ?_)
    · replace h := if_t h hc
      refine lv_iconst (v := 0) hx hb dX7_holds_28 (by decide) ?_
      cases h
      exact e_int X hH rfl dX7_holds_29
    · replace h := if_f h hc
      refine lv_aload_n hx hb dX7_holds_10 rfl (lv_at hl 0 rfl) ?_
      refine r_get X.1 hH (lW _ hi0 1 (by decide)) (dW1 _ hi0) rfl inlX7 0 (by decide) (v := .ref (adr Γ (kW i0 + 2))) rfl mw_84 dX7_holds_11 ?_
      refine lv_iload_n hx hb dX7_holds_14 rfl (lv_at hl 2 rfl) ?_
      obtain ⟨hg101, h⟩ := chk_some h
      obtain ⟨r102, he103, h⟩ := bnd_some h
      obtain ⟨hr102, h⟩ := chk_some h
      replace hr102 := of_decide_eq_true hr102
      refine r_ald X.1 hH (lW _ hi0 2 (by decide)) (dW2 _ hi0) hg101 he103 dX7_holds_15 ?_
      refine lv_aload_n hx hb dX7_holds_16 rfl (lv_at hl 1 rfl) ?_
      refine r_anelo X.1 hr102 hi1 (tgt := 22) dX7_holds_17 (by decide) (fun hc => ?_) (fun hc => ?_)
      · replace h := if_f h hc
        refine lv_iinc (v := x2 + 1) (lv' := [(2, .int (x2 + 1)), (0, .ref (adr Γ (kW i0 + 1))), (1, .ref (adr Γ (kR i1)))]) hx hb dX7_holds_22 hl (k := 2) rfl rfl (by decide) rfl (fun ls hl => ?_)
        refine lv_goto (tgt := 2) hx hb dX7_holds_25 (by decide) ?_
        exact ih  (x2 + 1) h _ _ _ hH (lv_sub hl [1, 2, 0] rfl)
      · replace h := if_t h hc
        refine lv_iconst (v := 1) hx hb dX7_holds_20 (by decide) ?_
        cases h
        exact e_int X hH rfl dX7_holds_21
/-- CutoffMill$Store.holds(LCutoffMill$Result;)Z -/
def m_X7_holds (σ : Sg) (i0 : Nat) (i1 : Nat) : Option Int32 := m_X7_holds_2 σ i0 i1 1000 0
set_option maxHeartbeats 4000000 in
set_option maxRecDepth 100000 in
theorem c_X7_holds (l : Launch) {Γ : GG} (hJ : IJ Γ) (σ : Sg) (i0 : Nat) (hi0 : i0 < 2) (i1 : Nat) (hi1 : i1 < 30) (rf : Int32) (h : m_X7_holds σ i0 i1 = some rf) : CI l yX7_holds (wy yX7_holds cX7_holds 3 (some .boolean)) { frames := 0, cells := 0, slots := 0, locals := 0 } Γ σ [.ref (adr Γ (kW i0 + 1)), .ref (adr Γ (kR i1))] σ rf := by
  refine met_of (by decide +kernel) hJ (Nat.le_of_ble_eq_true rfl) (fun p e s m below meth c ls X hH hl => ?_)
  have hl : lv_has ls 3 [(0, .ref (adr Γ (kW i0 + 1))), (1, .ref (adr Γ (kR i1)))] := hl
  have hx := X.1.1
  have hb := X.1.2.1
  rw [m_X7_holds] at h
  refine lv_iconst (v := 0) hx hb dX7_holds_0 (by decide) ?_
  refine lv_istore_n (lv' := [(2, .int 0), (0, .ref (adr Γ (kW i0 + 1))), (1, .ref (adr Γ (kR i1)))]) hx hb dX7_holds_1 rfl hl (by decide) rfl (fun ls hl => ?_)
  exact b_X7_holds_2 X σ i0 hi0 i1 hi1  1000  0 h _ _ _ hH (lv_sub hl [1, 2, 0] rfl)
def m_X9_isHeld_2 (σ : Sg) (i0 : Nat) (i1 : Nat)  : Nat → Int32 → Option Int32
  | 0, _ => none
  | n + 1, x2 => if 8 ≤ x2 then bnd (m_X7_holds σ i0 i1) (fun r102 => chk (zb r102) (some r102)) else chk (inb x2 (lenP 0 i0)) (bnd (σ.2.2 0 i0 x2.toNatClampNeg) (fun r106 => chk (decide (r106 < 30)) (if r106 = i1 then some 1 else m_X9_isHeld_2 σ i0 i1 n (x2 + 1))))
set_option maxHeartbeats 4000000 in
set_option maxRecDepth 100000 in
theorem b_X9_isHeld_2 {p : Program} {l : Launch} {e : Env} {s : State} {m : MethodId} {args : Array Value} {below : List Frame} {meth : Method} {c : Code} {Γ : GG} (X : MB Γ p s m args meth c cX9_isHeld 3 RX9 (some .boolean)) (σ : Sg) {rf : Int32} (i0 : Nat) (hi0 : i0 < 2) (i1 : Nat) (hi1 : i1 < 30) : ∀ (n : Nat), (∀ (x2 : Int32), (m_X9_isHeld_2 σ i0 i1 n) x2 = some rf → ∀ (H : Heap) (locs : List Loc) (ls : Array Slot), HW (IA Γ) Γ σ s.heap H locs → lv_has ls 3 [(0, .ref (adr Γ (kW i0))), (1, .ref (adr Γ (kR i1))), (2, .int x2)] → W p l e ({ frames := 1, cells := 0, slots := 0, locals := 22 } : Room) s m args below meth c H locs 0 0 (QI Γ σ rf below args s) (F0 m 2 ls [])) := by
  have hx := X.1.1
  have hb := X.1.2.1
  intro n
  induction n with
  | zero => intro x2 h; rw [m_X9_isHeld_2] at h; cases h
  | succ n ih =>
    intro x2 h H locs ls hH hl
    rw [m_X9_isHeld_2] at h
    refine lv_iload_n hx hb dX9_isHeld_2 rfl (lv_at hl 2 rfl) ?_
    refine lv_bipush (v := 8) hx hb dX9_isHeld_3 (by decide) ?_
    refine lv_icmp_ge (tgt := 26) hx hb dX9_isHeld_5 (by decide) (fun hc => ?_) (fun hc => ?_)
    · replace h := if_t h hc
      refine lv_aload_n hx hb dX9_isHeld_26 rfl (lv_at hl 0 rfl) ?_
      refine r_get X.1 hH (kW_lt hi0) (dW0 _ hi0) rfl inlX9 4 (by decide) (v := .ref (adr Γ (kW i0 + 1))) rfl mw_70 dX9_isHeld_27 ?_
      refine lv_aload_n hx hb dX9_isHeld_30 rfl (lv_at hl 1 rfl) ?_
      obtain ⟨r102, hq101, h⟩ := bnd_some h
      refine r_callVI X.1 hl hH (As := [.ref (adr Γ (kR i1))]) (rest := []) (c_X7_holds l X.1.2.2.2.2.2.2.1 σ i0 hi0 i1 hi1 _ hq101) (cw_V X.1 1 mw_421 mw_418 mw_419 mw_420 mw_69 rfl rfl (by decide +kernel) ⟨Nat.le_of_ble_eq_true rfl, Nat.le_of_ble_eq_true rfl⟩) (r_recv X.1 hH (lW _ hi0 1 (by decide)) (dW1 _ hi0) rfl) rfl rfl (Nat.le_of_ble_eq_true rfl) dX9_isHeld_31 ⟨Nat.zero_le _, Nat.zero_le _⟩ (fun H locs hH => ?_)
      obtain ⟨hg104, h⟩ := chk_some h
      cases h
      exact e_int X hH (zb_nar hg104) dX9_isHeld_34
    · replace h := if_f h hc
      refine lv_aload_n hx hb dX9_isHeld_8 rfl (lv_at hl 0 rfl) ?_
      refine r_get X.1 hH (kW_lt hi0) (dW0 _ hi0) rfl inlX9 5 (by decide) (v := .ref (adr Γ (kW i0 + 3))) rfl mw_63 dX9_isHeld_9 ?_
      refine lv_iload_n hx hb dX9_isHeld_12 rfl (lv_at hl 2 rfl) ?_
      obtain ⟨hg105, h⟩ := chk_some h
      obtain ⟨r106, he107, h⟩ := bnd_some h
      obtain ⟨hr106, h⟩ := chk_some h
      replace hr106 := of_decide_eq_true hr106
      refine r_ald X.1 hH (lW _ hi0 3 (by decide)) (dW3 _ hi0) hg105 he107 dX9_isHeld_13 ?_
      refine lv_aload_n hx hb dX9_isHeld_14 rfl (lv_at hl 1 rfl) ?_
      refine r_anelo X.1 hr106 hi1 (tgt := 20) dX9_isHeld_15 (by decide) (fun hc => ?_) (fun hc => ?_)
      · replace h := if_f h hc
        refine lv_iinc (v := x2 + 1) (lv' := [(2, .int (x2 + 1)), (0, .ref (adr Γ (kW i0))), (1, .ref (adr Γ (kR i1)))]) hx hb dX9_isHeld_20 hl (k := 2) rfl rfl (by decide) rfl (fun ls hl => ?_)
        refine lv_goto (tgt := 2) hx hb dX9_isHeld_23 (by decide) ?_
        exact ih  (x2 + 1) h _ _ _ hH (lv_sub hl [1, 2, 0] rfl)
      · replace h := if_t h hc
        refine lv_iconst (v := 1) hx hb dX9_isHeld_18 (by decide) ?_
        cases h
        exact e_int X hH rfl dX9_isHeld_19
/-- CutoffMill$Works.isHeld(LCutoffMill$Result;)Z -/
def m_X9_isHeld (σ : Sg) (i0 : Nat) (i1 : Nat) : Option Int32 := m_X9_isHeld_2 σ i0 i1 1000 0
set_option maxHeartbeats 4000000 in
set_option maxRecDepth 100000 in
theorem c_X9_isHeld (l : Launch) {Γ : GG} (hJ : IJ Γ) (σ : Sg) (i0 : Nat) (hi0 : i0 < 2) (i1 : Nat) (hi1 : i1 < 30) (rf : Int32) (h : m_X9_isHeld σ i0 i1 = some rf) : CI l yX9_isHeld (wy yX9_isHeld cX9_isHeld 3 (some .boolean)) { frames := 1, cells := 0, slots := 0, locals := 22 } Γ σ [.ref (adr Γ (kW i0)), .ref (adr Γ (kR i1))] σ rf := by
  refine met_of (by decide +kernel) hJ (Nat.le_of_ble_eq_true rfl) (fun p e s m below meth c ls X hH hl => ?_)
  have hl : lv_has ls 3 [(0, .ref (adr Γ (kW i0))), (1, .ref (adr Γ (kR i1)))] := hl
  have hx := X.1.1
  have hb := X.1.2.1
  rw [m_X9_isHeld] at h
  refine lv_iconst (v := 0) hx hb dX9_isHeld_0 (by decide) ?_
  refine lv_istore_n (lv' := [(2, .int 0), (0, .ref (adr Γ (kW i0))), (1, .ref (adr Γ (kR i1)))]) hx hb dX9_isHeld_1 rfl hl (by decide) rfl (fun ls hl => ?_)
  exact b_X9_isHeld_2 X σ i0 hi0 i1 hi1  1000  0 h _ _ _ hH (lv_sub hl [1, 2, 0] rfl)
def m_X9_freeResult_9 (σ : Sg) (i0 : Nat)  : Nat → Nat → Int32 → Option Nat
  | 0, _, _ => none
  | n + 1, r1, x2 => if ((Int32.ofNat ((lenP 3 i0)))) ≤ x2 then some r1 else bnd (m_X9_isHeld σ i0 r1) (fun r105 => if r105 = 0 then some r1 else chk (inb x2 (lenP 3 i0)) (bnd (σ.2.2 3 i0 x2.toNatClampNeg) (fun r108 => chk (decide (r108 < 30)) (m_X9_freeResult_9 σ i0 n r108 (x2 + 1)))))
set_option maxHeartbeats 4000000 in
set_option maxRecDepth 100000 in
theorem b_X9_freeResult_9 {p : Program} {l : Launch} {e : Env} {s : State} {m : MethodId} {args : Array Value} {below : List Frame} {meth : Method} {c : Code} {Γ : GG} (X : MB Γ p s m args meth c cX9_freeResult 3 RX9 (some (.object "CutoffMill$Result"))) (σ : Sg) {rf : Nat} (i0 : Nat) (hi0 : i0 < 2) : ∀ (n : Nat), (∀ (r1 : Nat) (hr1 : r1 < 30) (x2 : Int32), (m_X9_freeResult_9 σ i0 n) r1 x2 = some rf → ∀ (H : Heap) (locs : List Loc) (ls : Array Slot), HW (IA Γ) Γ σ s.heap H locs → lv_has ls 3 [(0, .ref (adr Γ (kW i0))), (1, .ref (adr Γ (kR r1))), (2, .int x2)] → W p l e ({ frames := 2, cells := 0, slots := 0, locals := 44 } : Room) s m args below meth c H locs 0 0 (QR Γ σ rf below args s) (F0 m 9 ls [])) := by
  have hx := X.1.1
  have hb := X.1.2.1
  intro n
  induction n with
  | zero => intro r1 hr1 x2 h; rw [m_X9_freeResult_9] at h; cases h
  | succ n ih =>
    intro r1 hr1 x2 h H locs ls hH hl
    rw [m_X9_freeResult_9] at h
    refine lv_iload_n hx hb dX9_freeResult_9 rfl (lv_at hl 2 rfl) ?_
    refine lv_aload_n hx hb dX9_freeResult_10 rfl (lv_at hl 0 rfl) ?_
    refine r_get X.1 hH (kW_lt hi0) (dW0 _ hi0) rfl inlX9 7 (by decide) (v := .ref (adr Γ (kW i0 + 4))) rfl mw_74 dX9_freeResult_11 ?_
    refine r_len X.1 hH (v := (Int32.ofNat ((lenP 3 i0)))) (lW _ hi0 4 (by decide)) (dW4 _ hi0) (by decide) rfl dX9_freeResult_14 ?_
    refine lv_icmp_ge (tgt := 39) hx hb dX9_freeResult_15 (by decide) (fun hc => ?_) (fun hc => ?_)
    · replace h := if_t h hc
      refine lv_aload_n hx hb dX9_freeResult_39 rfl (lv_at hl 1 rfl) ?_
      cases h
      exact e_ref X hH dX9_freeResult_40
    · replace h := if_f h hc
      refine lv_aload_n hx hb dX9_freeResult_18 rfl (lv_at hl 0 rfl) ?_
      refine lv_aload_n hx hb dX9_freeResult_19 rfl (lv_at hl 1 rfl) ?_
      obtain ⟨r105, hq104, h⟩ := bnd_some h
      refine r_callVI X.1 hl hH (As := [.ref (adr Γ (kR r1))]) (rest := []) (c_X9_isHeld l X.1.2.2.2.2.2.2.1 σ i0 hi0 r1 hr1 _ hq104) (cw_V X.1 1 mw_417 mw_414 mw_415 mw_416 mw_24 rfl rfl (by decide +kernel) ⟨Nat.le_of_ble_eq_true rfl, Nat.le_of_ble_eq_true rfl⟩) (r_recv X.1 hH (kW_lt hi0) (dW0 _ hi0) rfl) rfl rfl (Nat.le_of_ble_eq_true rfl) dX9_freeResult_20 ⟨Nat.zero_le _, Nat.zero_le _⟩ (fun H locs hH => ?_)
      refine lv_if_eq (tgt := 39) hx hb dX9_freeResult_23 (by decide) (fun hc => ?_) (fun hc => ?_)
      · replace h := if_t h hc
        refine lv_aload_n hx hb dX9_freeResult_39 rfl (lv_at hl 1 rfl) ?_
        cases h
        exact e_ref X hH dX9_freeResult_40
      · replace h := if_f h hc
        refine lv_aload_n hx hb dX9_freeResult_26 rfl (lv_at hl 0 rfl) ?_
        refine r_get X.1 hH (kW_lt hi0) (dW0 _ hi0) rfl inlX9 7 (by decide) (v := .ref (adr Γ (kW i0 + 4))) rfl mw_74 dX9_freeResult_27 ?_
        refine lv_iload_n hx hb dX9_freeResult_30 rfl (lv_at hl 2 rfl) ?_
        obtain ⟨hg107, h⟩ := chk_some h
        obtain ⟨r108, he109, h⟩ := bnd_some h
        obtain ⟨hr108, h⟩ := chk_some h
        replace hr108 := of_decide_eq_true hr108
        refine r_ald X.1 hH (lW _ hi0 4 (by decide)) (dW4 _ hi0) hg107 he109 dX9_freeResult_31 ?_
        refine lv_astore_n (lv' := [(1, .ref (adr Γ (kR r108))), (0, .ref (adr Γ (kW i0))), (2, .int x2)]) hx hb dX9_freeResult_32 rfl hl (by decide) rfl (fun ls hl => ?_)
        refine lv_iinc (v := x2 + 1) (lv' := [(2, .int (x2 + 1)), (1, .ref (adr Γ (kR r108))), (0, .ref (adr Γ (kW i0)))]) hx hb dX9_freeResult_33 hl (k := 2) rfl rfl (by decide) rfl (fun ls hl => ?_)
        refine lv_goto (tgt := 9) hx hb dX9_freeResult_36 (by decide) ?_
        exact ih  r108 hr108 (x2 + 1) h _ _ _ hH (lv_sub hl [2, 1, 0] rfl)
/-- CutoffMill$Works.freeResult()LCutoffMill$Result; -/
def m_X9_freeResult (σ : Sg) (i0 : Nat) : Option Nat := chk (inb 0 (lenP 3 i0)) (bnd (σ.2.2 3 i0 (0 : Int32).toNatClampNeg) (fun r102 => chk (decide (r102 < 30)) (m_X9_freeResult_9 σ i0 1000 r102 1)))
set_option maxHeartbeats 4000000 in
set_option maxRecDepth 100000 in
theorem c_X9_freeResult (l : Launch) {Γ : GG} (hJ : IJ Γ) (σ : Sg) (i0 : Nat) (hi0 : i0 < 2) (rf : Nat) (h : m_X9_freeResult σ i0 = some rf) : CR l yX9_freeResult (wy yX9_freeResult cX9_freeResult 3 (some (.object "CutoffMill$Result"))) { frames := 2, cells := 0, slots := 0, locals := 44 } Γ σ [.ref (adr Γ (kW i0))] σ rf := by
  refine met_of (by decide +kernel) hJ (Nat.le_of_ble_eq_true rfl) (fun p e s m below meth c ls X hH hl => ?_)
  have hl : lv_has ls 3 [(0, .ref (adr Γ (kW i0)))] := hl
  have hx := X.1.1
  have hb := X.1.2.1
  rw [m_X9_freeResult] at h
  refine lv_aload_n hx hb dX9_freeResult_0 rfl (lv_at hl 0 rfl) ?_
  refine r_get X.1 hH (kW_lt hi0) (dW0 _ hi0) rfl inlX9 7 (by decide) (v := .ref (adr Γ (kW i0 + 4))) rfl mw_74 dX9_freeResult_1 ?_
  refine lv_iconst (v := 0) hx hb dX9_freeResult_4 (by decide) ?_
  obtain ⟨hg101, h⟩ := chk_some h
  obtain ⟨r102, he103, h⟩ := bnd_some h
  obtain ⟨hr102, h⟩ := chk_some h
  replace hr102 := of_decide_eq_true hr102
  refine r_ald X.1 hH (lW _ hi0 4 (by decide)) (dW4 _ hi0) hg101 he103 dX9_freeResult_5 ?_
  refine lv_astore_n (lv' := [(1, .ref (adr Γ (kR r102))), (0, .ref (adr Γ (kW i0)))]) hx hb dX9_freeResult_6 rfl hl (by decide) rfl (fun ls hl => ?_)
  refine lv_iconst (v := 1) hx hb dX9_freeResult_7 (by decide) ?_
  refine lv_istore_n (lv' := [(2, .int 1), (1, .ref (adr Γ (kR r102))), (0, .ref (adr Γ (kW i0)))]) hx hb dX9_freeResult_8 rfl hl (by decide) rfl (fun ls hl => ?_)
  exact b_X9_freeResult_9 X σ i0 hi0  1000  r102 hr102 1 h _ _ _ hH (lv_sub hl [2, 1, 0] rfl)
/-- CutoffMill$Texts.copy(LCutoffMill$Texts;)V -/
def m_X8_copy (σ : Sg) (i0 : Nat) (i1 : Nat) : Option Sg := st (rowI σ 26 i0 (va_cpy (σ.1 26 i1) (σ.1 26 i0) 0 0 128)) (fun σ101 => st (rowI σ101 27 i0 (va_cpy (σ101.1 27 i1) (σ101.1 27 i0) 0 0 40)) (fun σ103 => st (rowI σ103 28 i0 (va_cpy (σ103.1 28 i1) (σ103.1 28 i0) 0 0 8)) (fun σ105 => st (wI σ105 29 i0 0 (σ105.1 29 i1 0)) (fun σ107 => some σ107))))
set_option maxHeartbeats 4000000 in
set_option maxRecDepth 100000 in
theorem c_X8_copy (l : Launch) {Γ : GG} (hJ : IJ Γ) (σ : Sg) (i0 : Nat) (hi0 : i0 < 32) (i1 : Nat) (hi1 : i1 < 32) (σf : Sg) (rf : Unit) (h : m_X8_copy σ i0 i1 = some σf) : CV l yX8_copy (wy yX8_copy cX8_copy 2 none) { frames := 1, cells := 0, slots := 0, locals := 60 } Γ σ [.ref (adr Γ (kT i0)), .ref (adr Γ (kT i1))] σf rf := by
  refine met_of (by decide +kernel) hJ (Nat.le_of_ble_eq_true rfl) (fun p e s m below meth c ls X hH hl => ?_)
  have hl : lv_has ls 2 [(0, .ref (adr Γ (kT i0))), (1, .ref (adr Γ (kT i1)))] := hl
  have hx := X.1.1
  have hb := X.1.2.1
  rw [m_X8_copy] at h
  refine lv_aload_n hx hb dX8_copy_0 rfl (lv_at hl 1 rfl) ?_
  refine r_get X.1 hH (kT_lt (by omega)) (dT0 _ (by omega)) rfl inlX8 0 (by decide) (v := .ref (adr Γ (kT i1 + 1))) rfl mw_33 dX8_copy_1 ?_
  refine lv_iconst (v := 0) hx hb dX8_copy_4 (by decide) ?_
  refine lv_aload_n hx hb dX8_copy_5 rfl (lv_at hl 0 rfl) ?_
  refine r_get X.1 hH (kT_lt (by omega)) (dT0 _ (by omega)) rfl inlX8 0 (by decide) (v := .ref (adr Γ (kT i0 + 1))) rfl mw_33 dX8_copy_6 ?_
  refine lv_iconst (v := 0) hx hb dX8_copy_9 (by decide) ?_
  refine lv_sipush (v := 128) hx hb dX8_copy_10 (by decide) ?_
  obtain ⟨σ101, e102, h⟩ := st_some h
  refine r_copy X.1 (X.1.2.2.1.trans hl.1.symm) hH (lT1 _ (by omega)) (lT1 _ (by omega)) (dT1 _ (by omega)) (dT1 _ (by omega)) (n := 128) rfl (by decide) mw_375 mw_376 mw_377 mw_378 (Nat.le_of_ble_eq_true rfl) (Nat.le_of_ble_eq_true rfl) dX8_copy_13 (fun H locs hH => ?_)
  replace hH : HW (IA Γ) Γ σ101 s.heap H locs := by rw [e102]; exact hH
  refine lv_aload_n hx hb dX8_copy_16 rfl (lv_at hl 1 rfl) ?_
  refine r_get X.1 hH (kT_lt (by omega)) (dT0 _ (by omega)) rfl inlX8 1 (by decide) (v := .ref (adr Γ (kT i1 + 2))) rfl mw_34 dX8_copy_17 ?_
  refine lv_iconst (v := 0) hx hb dX8_copy_20 (by decide) ?_
  refine lv_aload_n hx hb dX8_copy_21 rfl (lv_at hl 0 rfl) ?_
  refine r_get X.1 hH (kT_lt (by omega)) (dT0 _ (by omega)) rfl inlX8 1 (by decide) (v := .ref (adr Γ (kT i0 + 2))) rfl mw_34 dX8_copy_22 ?_
  refine lv_iconst (v := 0) hx hb dX8_copy_25 (by decide) ?_
  refine lv_bipush (v := 40) hx hb dX8_copy_26 (by decide) ?_
  obtain ⟨σ103, e104, h⟩ := st_some h
  refine r_copy X.1 (X.1.2.2.1.trans hl.1.symm) hH (lT2 _ (by omega)) (lT2 _ (by omega)) (dT2 _ (by omega)) (dT2 _ (by omega)) (n := 40) rfl (by decide) mw_375 mw_376 mw_377 mw_378 (Nat.le_of_ble_eq_true rfl) (Nat.le_of_ble_eq_true rfl) dX8_copy_28 (fun H locs hH => ?_)
  replace hH : HW (IA Γ) Γ σ103 s.heap H locs := by rw [e104]; exact hH
  refine lv_aload_n hx hb dX8_copy_31 rfl (lv_at hl 1 rfl) ?_
  refine r_get X.1 hH (kT_lt (by omega)) (dT0 _ (by omega)) rfl inlX8 2 (by decide) (v := .ref (adr Γ (kT i1 + 3))) rfl mw_35 dX8_copy_32 ?_
  refine lv_iconst (v := 0) hx hb dX8_copy_35 (by decide) ?_
  refine lv_aload_n hx hb dX8_copy_36 rfl (lv_at hl 0 rfl) ?_
  refine r_get X.1 hH (kT_lt (by omega)) (dT0 _ (by omega)) rfl inlX8 2 (by decide) (v := .ref (adr Γ (kT i0 + 3))) rfl mw_35 dX8_copy_37 ?_
  refine lv_iconst (v := 0) hx hb dX8_copy_40 (by decide) ?_
  refine lv_bipush (v := 8) hx hb dX8_copy_41 (by decide) ?_
  obtain ⟨σ105, e106, h⟩ := st_some h
  refine r_copy X.1 (X.1.2.2.1.trans hl.1.symm) hH (lT3 _ (by omega)) (lT3 _ (by omega)) (dT3 _ (by omega)) (dT3 _ (by omega)) (n := 8) rfl (by decide) mw_375 mw_376 mw_377 mw_378 (Nat.le_of_ble_eq_true rfl) (Nat.le_of_ble_eq_true rfl) dX8_copy_43 (fun H locs hH => ?_)
  replace hH : HW (IA Γ) Γ σ105 s.heap H locs := by rw [e106]; exact hH
  refine lv_aload_n hx hb dX8_copy_46 rfl (lv_at hl 0 rfl) ?_
  refine lv_aload_n hx hb dX8_copy_47 rfl (lv_at hl 1 rfl) ?_
  refine r_get X.1 hH (kT_lt (by omega)) (dT0 _ (by omega)) rfl inlX8 3 (by decide) (v := .int (σ105.1 29 i1 0)) rfl mw_379 dX8_copy_48 ?_
  obtain ⟨σ107, e108, h⟩ := st_some h
  refine r_putI X.1 hH (co := 29) (kT_lt (by omega)) rfl (dT0 _ (by omega)) rfl inlX8 tyX8 tyX8_ok nmX8 (by decide) (Nat.le_of_ble_eq_true rfl) rfl (by decide +kernel) mw_379 dX8_copy_51 (fun H locs hH => ?_)
  replace hH : HW (IA Γ) Γ σ107 s.heap H locs := by rw [e108]; exact hH
  cases h
  exact e_void (v := rf) X hH dX8_copy_54
def m_J7_fill_d0a16_6 (ca0 oa0 na0 : Nat) (x1 : Int64)  : Nat → Sg → Int32 → Int32 → Option Sg
  | 0, _, _, _ => none
  | n + 1, σ, x3, x4 => if x4 ≤ x3 then some σ else chk (inb x3 na0) (st (wJ σ ca0 oa0 x3.toNatClampNeg x1) (fun σ102 => m_J7_fill_d0a16_6 ca0 oa0 na0 x1 n σ102 (x3 + 1) x4))
set_option maxHeartbeats 4000000 in
set_option maxRecDepth 100000 in
theorem b_J7_fill_d0a16_6 {p : Program} {l : Launch} {e : Env} {s : State} {m : MethodId} {args : Array Value} {below : List Frame} {meth : Method} {c : Code} {Γ : GG} (X : MB Γ p s m args meth c cJ7_fill_d0a16 5 RJ7 none) {σf : Sg} {rf : Unit} (ca0 oa0 na0 ka0 : Nat) (hka0 : ka0 < 440) (hda0 : desc ka0 = (1, ca0, oa0, na0)) (x1 : Int64) : ∀ (n : Nat), (∀ (σ : Sg) (x3 : Int32) (x4 : Int32), (m_J7_fill_d0a16_6 ca0 oa0 na0 x1 n) σ x3 x4 = some σf → ∀ (H : Heap) (locs : List Loc) (ls : Array Slot), HW (IA Γ) Γ σ s.heap H locs → lv_has ls 5 [(0, .ref (adr Γ ka0)), (1, .long x1), (3, .int x3), (4, .int x4)] → W p l e ({ frames := 0, cells := 0, slots := 0, locals := 0 } : Room) s m args below meth c H locs 0 0 (QV Γ σf rf below args s) (F0 m 6 ls [])) := by
  have hx := X.1.1
  have hb := X.1.2.1
  intro n
  induction n with
  | zero => intro σ x3 x4 h; rw [m_J7_fill_d0a16_6] at h; cases h
  | succ n ih =>
    intro σ x3 x4 h H locs ls hH hl
    rw [m_J7_fill_d0a16_6] at h
    refine lv_iload_n hx hb dJ7_fill_d0a16_6 rfl (lv_at hl 2 rfl) ?_
    refine lv_iload hx hb dJ7_fill_d0a16_7 (lv_at hl 3 rfl) ?_
    refine lv_icmp_ge (tgt := 22) hx hb dJ7_fill_d0a16_9 (by decide) (fun hc => ?_) (fun hc => ?_)
    · replace h := if_t h hc
      cases h
      exact e_void (v := rf) X hH dJ7_fill_d0a16_22
    · replace h := if_f h hc
      refine lv_aload_n hx hb dJ7_fill_d0a16_12 rfl (lv_at hl 0 rfl) ?_
      refine lv_iload_n hx hb dJ7_fill_d0a16_13 rfl (lv_at hl 2 rfl) ?_
      refine lv_lload_n hx hb dJ7_fill_d0a16_14 rfl (lv_at hl 1 rfl) ?_
      obtain ⟨hg101, h⟩ := chk_some h
      obtain ⟨σ102, e103, h⟩ := st_some h
      refine r_lst X.1 hH hka0 hda0 hg101 dJ7_fill_d0a16_15 (fun H locs hH => ?_)
      replace hH : HW (IA Γ) Γ σ102 s.heap H locs := by rw [e103]; exact hH
      refine lv_iinc (v := x3 + 1) (lv' := [(3, .int (x3 + 1)), (0, .ref (adr Γ ka0)), (1, .long x1), (4, .int x4)]) hx hb dJ7_fill_d0a16_16 hl (k := 2) rfl rfl (by decide) rfl (fun ls hl => ?_)
      refine lv_goto (tgt := 6) hx hb dJ7_fill_d0a16_19 (by decide) ?_
      exact ih σ102 (x3 + 1) x4 h _ _ _ hH (lv_sub hl [1, 2, 0, 3] rfl)
/-- java/util/Arrays.fill([JJ)V -/
def m_J7_fill_d0a16 (σ : Sg) (ca0 oa0 na0 : Nat) (x1 : Int64) : Option Sg := m_J7_fill_d0a16_6 ca0 oa0 na0 x1 1000 σ 0 ((Int32.ofNat na0))
set_option maxHeartbeats 4000000 in
set_option maxRecDepth 100000 in
theorem c_J7_fill_d0a16 (l : Launch) {Γ : GG} (hJ : IJ Γ) (σ : Sg) (ca0 oa0 na0 ka0 : Nat) (hka0 : ka0 < 440) (hda0 : desc ka0 = (1, ca0, oa0, na0)) (x1 : Int64) (σf : Sg) (rf : Unit) (h : m_J7_fill_d0a16 σ ca0 oa0 na0 x1 = some σf) : CV l yJ7_fill_d0a16 (wy yJ7_fill_d0a16 cJ7_fill_d0a16 5 none) { frames := 0, cells := 0, slots := 0, locals := 0 } Γ σ [.ref (adr Γ ka0), .long x1] σf rf := by
  refine met_of (by decide +kernel) hJ (Nat.le_of_ble_eq_true rfl) (fun p e s m below meth c ls X hH hl => ?_)
  have hl : lv_has ls 5 [(0, .ref (adr Γ ka0)), (1, .long x1)] := hl
  have hx := X.1.1
  have hb := X.1.2.1
  rw [m_J7_fill_d0a16] at h
  refine lv_iconst (v := 0) hx hb dJ7_fill_d0a16_0 (by decide) ?_
  refine lv_istore_n (lv' := [(3, .int 0), (0, .ref (adr Γ ka0)), (1, .long x1)]) hx hb dJ7_fill_d0a16_1 rfl hl (by decide) rfl (fun ls hl => ?_)
  refine lv_aload_n hx hb dJ7_fill_d0a16_2 rfl (lv_at hl 1 rfl) ?_
  refine r_len X.1 hH (v := (Int32.ofNat na0)) hka0 hda0 (by decide) rfl dJ7_fill_d0a16_3 ?_
  refine lv_istore (lv' := [(4, .int ((Int32.ofNat na0))), (3, .int 0), (0, .ref (adr Γ ka0)), (1, .long x1)]) hx hb dJ7_fill_d0a16_4 hl (by decide) rfl (fun ls hl => ?_)
  exact b_J7_fill_d0a16_6 (rf := ()) X ca0 oa0 na0 ka0 hka0 hda0 x1  1000 σ 0 ((Int32.ofNat na0)) h _ _ _ hH (lv_sub hl [2, 3, 1, 0] rfl)
def m_X0_of_40 (σ : Sg) (x0 : Int32) (x1 : Int32) (x2 : Int32) (x3 : Int32) (x4 : Int32)  (s0 : Int32) (s1 : Int32) : Option Int64 := some (((s1 ||| s0 : Int32).toInt64) ||| ((((x4 : Int32).toInt64) &&& (4294967295 : Int64)) <<< ((11 : Int32).toInt64 &&& 63)))
set_option maxHeartbeats 4000000 in
set_option maxRecDepth 100000 in
theorem b_X0_of_40 {p : Program} {l : Launch} {e : Env} {s : State} {m : MethodId} {args : Array Value} {below : List Frame} {meth : Method} {c : Code} {Γ : GG} (X : MB Γ p s m args meth c cX0_of 5 RX0 (some .long)) (σ : Sg) {rf : Int64} (x0 : Int32) (x1 : Int32) (x2 : Int32) (x3 : Int32) (x4 : Int32) : (∀ (s0 : Int32) (s1 : Int32), (m_X0_of_40 σ x0 x1 x2 x3 x4) s0 s1 = some rf → ∀ (H : Heap) (locs : List Loc) (ls : Array Slot), HW (IA Γ) Γ σ s.heap H locs → lv_has ls 5 [(4, .int x4)] → W p l e ({ frames := 0, cells := 0, slots := 0, locals := 0 } : Room) s m args below meth c H locs 0 0 (QL Γ σ rf below args s) (F0 m 40 ls [.int s0, .int s1])) := by
  have hx := X.1.1
  have hb := X.1.2.1
  intro s0 s1 h H locs ls hH hl
  rw [m_X0_of_40] at h
  refine lv_ior hx hb dX0_of_40 ?_
  refine lv_i2l (v := (s1 ||| s0 : Int32).toInt64) hx hb dX0_of_41 rfl ?_
  refine lv_iload hx hb dX0_of_42 (lv_at hl 0 rfl) ?_
  refine lv_i2l (v := (x4 : Int32).toInt64) hx hb dX0_of_44 rfl ?_
  refine lv_ldc2 (v := 4294967295) hx hb X.1.2.2.2.1 (X.1.hts _ mw_109) dX0_of_45 ?_
  refine lv_land hx hb dX0_of_48 ?_
  refine lv_bipush (v := 11) hx hb dX0_of_49 (by decide) ?_
  refine lv_lshl (v := (((x4 : Int32).toInt64) &&& (4294967295 : Int64)) <<< ((11 : Int32).toInt64 &&& 63)) hx hb dX0_of_51 rfl ?_
  refine lv_lor hx hb dX0_of_52 ?_
  cases h
  exact e_long X hH dX0_of_53
def m_X0_of_16 (σ : Sg) (x0 : Int32) (x1 : Int32) (x2 : Int32) (x3 : Int32) (x4 : Int32)  (s0 : Int32) (s1 : Int32) : Option Int64 := if x2 = 0 then if x3 = 0 then m_X0_of_40 σ x0 x1 x2 x3 x4 0 ((s1 ||| s0) ||| (0 : Int32)) else m_X0_of_40 σ x0 x1 x2 x3 x4 1024 ((s1 ||| s0) ||| (0 : Int32)) else if x3 = 0 then m_X0_of_40 σ x0 x1 x2 x3 x4 0 ((s1 ||| s0) ||| (512 : Int32)) else m_X0_of_40 σ x0 x1 x2 x3 x4 1024 ((s1 ||| s0) ||| (512 : Int32))
set_option maxHeartbeats 4000000 in
set_option maxRecDepth 100000 in
theorem b_X0_of_16 {p : Program} {l : Launch} {e : Env} {s : State} {m : MethodId} {args : Array Value} {below : List Frame} {meth : Method} {c : Code} {Γ : GG} (X : MB Γ p s m args meth c cX0_of 5 RX0 (some .long)) (σ : Sg) {rf : Int64} (x0 : Int32) (x1 : Int32) (x2 : Int32) (x3 : Int32) (x4 : Int32) : (∀ (s0 : Int32) (s1 : Int32), (m_X0_of_16 σ x0 x1 x2 x3 x4) s0 s1 = some rf → ∀ (H : Heap) (locs : List Loc) (ls : Array Slot), HW (IA Γ) Γ σ s.heap H locs → lv_has ls 5 [(2, .int x2), (3, .int x3), (4, .int x4)] → W p l e ({ frames := 0, cells := 0, slots := 0, locals := 0 } : Room) s m args below meth c H locs 0 0 (QL Γ σ rf below args s) (F0 m 16 ls [.int s0, .int s1])) := by
  have hx := X.1.1
  have hb := X.1.2.1
  intro s0 s1 h H locs ls hH hl
  rw [m_X0_of_16] at h
  refine lv_ior hx hb dX0_of_16 ?_
  refine lv_iload_n hx hb dX0_of_17 rfl (lv_at hl 0 rfl) ?_
  refine lv_if_eq (tgt := 27) hx hb dX0_of_18 (by decide) (fun hc => ?_) (fun hc => ?_)
  · replace h := if_t h hc
    refine lv_iconst (v := 0) hx hb dX0_of_27 (by decide) ?_
    refine lv_ior hx hb dX0_of_28 ?_
    refine lv_iload_n hx hb dX0_of_29 rfl (lv_at hl 1 rfl) ?_
    refine lv_if_eq (tgt := 39) hx hb dX0_of_30 (by decide) (fun hc => ?_) (fun hc => ?_)
    · replace h := if_t h hc
      refine lv_iconst (v := 0) hx hb dX0_of_39 (by decide) ?_
      exact b_X0_of_40 X σ x0 x1 x2 x3 x4   0 ((s1 ||| s0) ||| (0 : Int32)) h _ _ _ hH (lv_sub hl [2] rfl)
    · replace h := if_f h hc
      refine lv_sipush (v := 1024) hx hb dX0_of_33 (by decide) ?_
      refine lv_goto (tgt := 40) hx hb dX0_of_36 (by decide) ?_
      exact b_X0_of_40 X σ x0 x1 x2 x3 x4   1024 ((s1 ||| s0) ||| (0 : Int32)) h _ _ _ hH (lv_sub hl [2] rfl)
  · replace h := if_f h hc
    refine lv_sipush (v := 512) hx hb dX0_of_21 (by decide) ?_
    refine lv_goto (tgt := 28) hx hb dX0_of_24 (by decide) ?_
    refine lv_ior hx hb dX0_of_28 ?_
    refine lv_iload_n hx hb dX0_of_29 rfl (lv_at hl 1 rfl) ?_
    refine lv_if_eq (tgt := 39) hx hb dX0_of_30 (by decide) (fun hc => ?_) (fun hc => ?_)
    · replace h := if_t h hc
      refine lv_iconst (v := 0) hx hb dX0_of_39 (by decide) ?_
      exact b_X0_of_40 X σ x0 x1 x2 x3 x4   0 ((s1 ||| s0) ||| (512 : Int32)) h _ _ _ hH (lv_sub hl [2] rfl)
    · replace h := if_f h hc
      refine lv_sipush (v := 1024) hx hb dX0_of_33 (by decide) ?_
      refine lv_goto (tgt := 40) hx hb dX0_of_36 (by decide) ?_
      exact b_X0_of_40 X σ x0 x1 x2 x3 x4   1024 ((s1 ||| s0) ||| (512 : Int32)) h _ _ _ hH (lv_sub hl [2] rfl)
/-- CutoffMill$Answer.of(IZZZI)J -/
def m_X0_of (σ : Sg) (x0 : Int32) (x1 : Int32) (x2 : Int32) (x3 : Int32) (x4 : Int32) : Option Int64 := if x1 = 0 then m_X0_of_16 σ x0 x1 x2 x3 x4 0 (x0 ||| (128 : Int32)) else m_X0_of_16 σ x0 x1 x2 x3 x4 256 (x0 ||| (128 : Int32))
set_option maxHeartbeats 4000000 in
set_option maxRecDepth 100000 in
theorem c_X0_of (l : Launch) {Γ : GG} (hJ : IJ Γ) (σ : Sg) (x0 : Int32) (x1 : Int32) (x2 : Int32) (x3 : Int32) (x4 : Int32) (rf : Int64) (h : m_X0_of σ x0 x1 x2 x3 x4 = some rf) : CL l yX0_of (wy yX0_of cX0_of 5 (some .long)) { frames := 0, cells := 0, slots := 0, locals := 0 } Γ σ [.int x0, .int x1, .int x2, .int x3, .int x4] σ rf := by
  refine met_of (by decide +kernel) hJ (Nat.le_of_ble_eq_true rfl) (fun p e s m below meth c ls X hH hl => ?_)
  have hl : lv_has ls 5 [(0, .int x0), (1, .int x1), (2, .int x2), (3, .int x3), (4, .int x4)] := hl
  have hx := X.1.1
  have hb := X.1.2.1
  rw [m_X0_of] at h
  refine lv_iload_n hx hb dX0_of_0 rfl (lv_at hl 0 rfl) ?_
  refine lv_sipush (v := 128) hx hb dX0_of_1 (by decide) ?_
  refine lv_ior hx hb dX0_of_4 ?_
  refine lv_iload_n hx hb dX0_of_5 rfl (lv_at hl 1 rfl) ?_
  refine lv_if_eq (tgt := 15) hx hb dX0_of_6 (by decide) (fun hc => ?_) (fun hc => ?_)
  · replace h := if_t h hc
    refine lv_iconst (v := 0) hx hb dX0_of_15 (by decide) ?_
    exact b_X0_of_16 X σ x0 x1 x2 x3 x4   0 (x0 ||| (128 : Int32)) h _ _ _ hH (lv_sub hl [2, 3, 4] rfl)
  · replace h := if_f h hc
    refine lv_sipush (v := 256) hx hb dX0_of_9 (by decide) ?_
    refine lv_goto (tgt := 16) hx hb dX0_of_12 (by decide) ?_
    exact b_X0_of_16 X σ x0 x1 x2 x3 x4   256 (x0 ||| (128 : Int32)) h _ _ _ hH (lv_sub hl [2, 3, 4] rfl)
/-- CutoffMill$Result.setUnbuilt(I)V -/
def m_X5_setUnbuilt (σ : Sg) (i0 : Nat) (x1 : Int32) : Option Sg := bnd (m_X0_of σ x1 1 1 0 0) (fun r102 => chk (inb x1 128) (st (wJ σ 1 i0 x1.toNatClampNeg r102) (fun σ105 => chk (inb x1 128) (st (wI σ105 31 i0 x1.toNatClampNeg 1) (fun σ108 => chk (inb x1 128) (st (wI σ108 32 i0 x1.toNatClampNeg 0) (fun σ111 => chk (inb x1 128) (st (wI σ111 33 i0 x1.toNatClampNeg 0) (fun σ114 => chk (inb x1 128) (st (wI σ114 34 i0 x1.toNatClampNeg 0) (fun σ117 => chk (inb x1 128) (st (wI σ117 35 i0 x1.toNatClampNeg ((-1))) (fun σ120 => chk (inb x1 128) (st (wI σ120 36 i0 x1.toNatClampNeg ((-1))) (fun σ123 => some σ123)))))))))))))))
set_option maxHeartbeats 4000000 in
set_option maxRecDepth 100000 in
theorem c_X5_setUnbuilt (l : Launch) {Γ : GG} (hJ : IJ Γ) (σ : Sg) (i0 : Nat) (hi0 : i0 < 30) (x1 : Int32) (σf : Sg) (rf : Unit) (h : m_X5_setUnbuilt σ i0 x1 = some σf) : CV l yX5_setUnbuilt (wy yX5_setUnbuilt cX5_setUnbuilt 2 none) { frames := 1, cells := 0, slots := 0, locals := 24 } Γ σ [.ref (adr Γ (kR i0)), .int x1] σf rf := by
  refine met_of (by decide +kernel) hJ (Nat.le_of_ble_eq_true rfl) (fun p e s m below meth c ls X hH hl => ?_)
  have hl : lv_has ls 2 [(0, .ref (adr Γ (kR i0))), (1, .int x1)] := hl
  have hx := X.1.1
  have hb := X.1.2.1
  rw [m_X5_setUnbuilt] at h
  refine lv_aload_n hx hb dX5_setUnbuilt_0 rfl (lv_at hl 0 rfl) ?_
  refine r_get X.1 hH (kR_lt hi0) (dR0 _ hi0) rfl inlX5 3 (by decide) (v := .ref (adr Γ (kR i0 + 2))) rfl mw_93 dX5_setUnbuilt_1 ?_
  refine lv_iload_n hx hb dX5_setUnbuilt_4 rfl (lv_at hl 1 rfl) ?_
  refine lv_iload_n hx hb dX5_setUnbuilt_5 rfl (lv_at hl 1 rfl) ?_
  refine lv_iconst (v := 1) hx hb dX5_setUnbuilt_6 (by decide) ?_
  refine lv_iconst (v := 1) hx hb dX5_setUnbuilt_7 (by decide) ?_
  refine lv_iconst (v := 0) hx hb dX5_setUnbuilt_8 (by decide) ?_
  refine lv_iconst (v := 0) hx hb dX5_setUnbuilt_9 (by decide) ?_
  obtain ⟨r102, hq101, h⟩ := bnd_some h
  refine r_callSL X.1 hl hH (As := [.int x1, .int 1, .int 1, .int 0, .int 0]) (rest := [.int x1, .ref (adr Γ (kR i0 + 2))]) (c_X0_of l X.1.2.2.2.2.2.2.1 σ x1 1 1 0 0 _ hq101) (cw_S X.1 5 mw_108 mw_105 mw_106 mw_107 rfl rfl (by decide +kernel) ⟨Nat.le_of_ble_eq_true rfl, Nat.le_of_ble_eq_true rfl⟩) rfl rfl (Nat.le_of_ble_eq_true rfl) dX5_setUnbuilt_10 ⟨Nat.zero_le _, Nat.zero_le _⟩ (fun H locs hH => ?_)
  obtain ⟨hg104, h⟩ := chk_some h
  obtain ⟨σ105, e106, h⟩ := st_some h
  refine r_lst X.1 hH (lR _ hi0 2 (by decide)) (dR2 _ hi0) hg104 dX5_setUnbuilt_13 (fun H locs hH => ?_)
  replace hH : HW (IA Γ) Γ σ105 s.heap H locs := by rw [e106]; exact hH
  refine lv_aload_n hx hb dX5_setUnbuilt_14 rfl (lv_at hl 0 rfl) ?_
  refine r_get X.1 hH (kR_lt hi0) (dR0 _ hi0) rfl inlX5 4 (by decide) (v := .ref (adr Γ (kR i0 + 3))) rfl mw_94 dX5_setUnbuilt_15 ?_
  refine lv_iload_n hx hb dX5_setUnbuilt_18 rfl (lv_at hl 1 rfl) ?_
  refine lv_iconst (v := 1) hx hb dX5_setUnbuilt_19 (by decide) ?_
  obtain ⟨hg107, h⟩ := chk_some h
  obtain ⟨σ108, e109, h⟩ := st_some h
  refine r_ist X.1 hH (lR _ hi0 3 (by decide)) (dR3 _ hi0) hg107 dX5_setUnbuilt_20 (fun H locs hH => ?_)
  replace hH : HW (IA Γ) Γ σ108 s.heap H locs := by rw [e109]; exact hH
  refine lv_aload_n hx hb dX5_setUnbuilt_21 rfl (lv_at hl 0 rfl) ?_
  refine r_get X.1 hH (kR_lt hi0) (dR0 _ hi0) rfl inlX5 5 (by decide) (v := .ref (adr Γ (kR i0 + 4))) rfl mw_96 dX5_setUnbuilt_22 ?_
  refine lv_iload_n hx hb dX5_setUnbuilt_25 rfl (lv_at hl 1 rfl) ?_
  refine lv_iconst (v := 0) hx hb dX5_setUnbuilt_26 (by decide) ?_
  obtain ⟨hg110, h⟩ := chk_some h
  obtain ⟨σ111, e112, h⟩ := st_some h
  refine r_zst X.1 hH (lR _ hi0 4 (by decide)) (dR4 _ hi0) hg110 rfl dX5_setUnbuilt_27 (fun H locs hH => ?_)
  replace hH : HW (IA Γ) Γ σ111 s.heap H locs := by rw [e112]; exact hH
  refine lv_aload_n hx hb dX5_setUnbuilt_28 rfl (lv_at hl 0 rfl) ?_
  refine r_get X.1 hH (kR_lt hi0) (dR0 _ hi0) rfl inlX5 6 (by decide) (v := .ref (adr Γ (kR i0 + 5))) rfl mw_97 dX5_setUnbuilt_29 ?_
  refine lv_iload_n hx hb dX5_setUnbuilt_32 rfl (lv_at hl 1 rfl) ?_
  refine lv_iconst (v := 0) hx hb dX5_setUnbuilt_33 (by decide) ?_
  obtain ⟨hg113, h⟩ := chk_some h
  obtain ⟨σ114, e115, h⟩ := st_some h
  refine r_zst X.1 hH (lR _ hi0 5 (by decide)) (dR5 _ hi0) hg113 rfl dX5_setUnbuilt_34 (fun H locs hH => ?_)
  replace hH : HW (IA Γ) Γ σ114 s.heap H locs := by rw [e115]; exact hH
  refine lv_aload_n hx hb dX5_setUnbuilt_35 rfl (lv_at hl 0 rfl) ?_
  refine r_get X.1 hH (kR_lt hi0) (dR0 _ hi0) rfl inlX5 7 (by decide) (v := .ref (adr Γ (kR i0 + 6))) rfl mw_98 dX5_setUnbuilt_36 ?_
  refine lv_iload_n hx hb dX5_setUnbuilt_39 rfl (lv_at hl 1 rfl) ?_
  refine lv_iconst (v := 0) hx hb dX5_setUnbuilt_40 (by decide) ?_
  obtain ⟨hg116, h⟩ := chk_some h
  obtain ⟨σ117, e118, h⟩ := st_some h
  refine r_ist X.1 hH (lR _ hi0 6 (by decide)) (dR6 _ hi0) hg116 dX5_setUnbuilt_41 (fun H locs hH => ?_)
  replace hH : HW (IA Γ) Γ σ117 s.heap H locs := by rw [e118]; exact hH
  refine lv_aload_n hx hb dX5_setUnbuilt_42 rfl (lv_at hl 0 rfl) ?_
  refine r_get X.1 hH (kR_lt hi0) (dR0 _ hi0) rfl inlX5 8 (by decide) (v := .ref (adr Γ (kR i0 + 7))) rfl mw_99 dX5_setUnbuilt_43 ?_
  refine lv_iload_n hx hb dX5_setUnbuilt_46 rfl (lv_at hl 1 rfl) ?_
  refine lv_iconst (v := (-1)) hx hb dX5_setUnbuilt_47 (by decide) ?_
  obtain ⟨hg119, h⟩ := chk_some h
  obtain ⟨σ120, e121, h⟩ := st_some h
  refine r_ist X.1 hH (lR _ hi0 7 (by decide)) (dR7 _ hi0) hg119 dX5_setUnbuilt_48 (fun H locs hH => ?_)
  replace hH : HW (IA Γ) Γ σ120 s.heap H locs := by rw [e121]; exact hH
  refine lv_aload_n hx hb dX5_setUnbuilt_49 rfl (lv_at hl 0 rfl) ?_
  refine r_get X.1 hH (kR_lt hi0) (dR0 _ hi0) rfl inlX5 9 (by decide) (v := .ref (adr Γ (kR i0 + 8))) rfl mw_100 dX5_setUnbuilt_50 ?_
  refine lv_iload_n hx hb dX5_setUnbuilt_53 rfl (lv_at hl 1 rfl) ?_
  refine lv_iconst (v := (-1)) hx hb dX5_setUnbuilt_54 (by decide) ?_
  obtain ⟨hg122, h⟩ := chk_some h
  obtain ⟨σ123, e124, h⟩ := st_some h
  refine r_ist X.1 hH (lR _ hi0 8 (by decide)) (dR8 _ hi0) hg122 dX5_setUnbuilt_55 (fun H locs hH => ?_)
  replace hH : HW (IA Γ) Γ σ123 s.heap H locs := by rw [e124]; exact hH
  cases h
  exact e_void (v := rf) X hH dX5_setUnbuilt_56
def m_X5_begin_25 (i0 : Nat) (x1 : Int32) (i2 : Nat)  : Nat → Sg → Int32 → Option Sg
  | 0, _, _ => none
  | n + 1, σ, x3 => if 128 ≤ x3 then some σ else bnd (m_X5_setUnbuilt σ i0 x3) (fun σ111 => m_X5_begin_25 i0 x1 i2 n σ111 (x3 + 1))
set_option maxHeartbeats 4000000 in
set_option maxRecDepth 100000 in
theorem b_X5_begin_25 {p : Program} {l : Launch} {e : Env} {s : State} {m : MethodId} {args : Array Value} {below : List Frame} {meth : Method} {c : Code} {Γ : GG} (X : MB Γ p s m args meth c cX5_begin 4 RX5 none) {σf : Sg} {rf : Unit} (i0 : Nat) (hi0 : i0 < 30) (x1 : Int32) (i2 : Nat) (hi2 : i2 < 32) : ∀ (n : Nat), (∀ (σ : Sg) (x3 : Int32), (m_X5_begin_25 i0 x1 i2 n) σ x3 = some σf → ∀ (H : Heap) (locs : List Loc) (ls : Array Slot), HW (IA Γ) Γ σ s.heap H locs → lv_has ls 4 [(0, .ref (adr Γ (kR i0))), (3, .int x3)] → W p l e ({ frames := 2, cells := 0, slots := 0, locals := 81 } : Room) s m args below meth c H locs 0 0 (QV Γ σf rf below args s) (F0 m 25 ls [])) := by
  have hx := X.1.1
  have hb := X.1.2.1
  intro n
  induction n with
  | zero => intro σ x3 h; rw [m_X5_begin_25] at h; cases h
  | succ n ih =>
    intro σ x3 h H locs ls hH hl
    rw [m_X5_begin_25] at h
    refine lv_iload_n hx hb dX5_begin_25 rfl (lv_at hl 1 rfl) ?_
    refine lv_sipush (v := 128) hx hb dX5_begin_26 (by decide) ?_
    refine lv_icmp_ge (tgt := 43) hx hb dX5_begin_29 (by decide) (fun hc => ?_) (fun hc => ?_)
    · replace h := if_t h hc
      cases h
      exact e_void (v := rf) X hH dX5_begin_43
    · replace h := if_f h hc
      refine lv_aload_n hx hb dX5_begin_32 rfl (lv_at hl 0 rfl) ?_
      refine lv_iload_n hx hb dX5_begin_33 rfl (lv_at hl 1 rfl) ?_
      obtain ⟨σ111, hq109, h⟩ := bnd_some h
      refine r_callVV X.1 hl hH (r := ()) (As := [.int x3]) (rest := []) (c_X5_setUnbuilt l X.1.2.2.2.2.2.2.1 σ i0 hi0 x3 _ () hq109) (cw_V X.1 1 mw_104 mw_101 mw_102 mw_103 mw_72 rfl rfl (by decide +kernel) ⟨Nat.le_of_ble_eq_true rfl, Nat.le_of_ble_eq_true rfl⟩) (r_recv X.1 hH (kR_lt hi0) (dR0 _ hi0) rfl) rfl rfl (Nat.le_of_ble_eq_true rfl) dX5_begin_34 ⟨Nat.zero_le _, Nat.zero_le _⟩ (fun H locs hH => ?_)
      refine lv_iinc (v := x3 + 1) (lv' := [(3, .int (x3 + 1)), (0, .ref (adr Γ (kR i0)))]) hx hb dX5_begin_37 hl (k := 1) rfl rfl (by decide) rfl (fun ls hl => ?_)
      refine lv_goto (tgt := 25) hx hb dX5_begin_40 (by decide) ?_
      exact ih σ111 (x3 + 1) h _ _ _ hH (lv_sub hl [1, 0] rfl)
/-- CutoffMill$Result.begin(ILCutoffMill$Texts;)V -/
def m_X5_begin (σ : Sg) (i0 : Nat) (x1 : Int32) (i2 : Nat) : Option Sg := st (wI σ 30 i0 0 x1) (fun σ101 => bnd (m_X8_copy σ101 (i0 + 2) i2) (fun σ105 => bnd (m_J7_fill_d0a16 σ105 0 i0 128 ((-3))) (fun σ108 => m_X5_begin_25 i0 x1 i2 1000 σ108 0)))
set_option maxHeartbeats 4000000 in
set_option maxRecDepth 100000 in
theorem c_X5_begin (l : Launch) {Γ : GG} (hJ : IJ Γ) (σ : Sg) (i0 : Nat) (hi0 : i0 < 30) (x1 : Int32) (i2 : Nat) (hi2 : i2 < 32) (σf : Sg) (rf : Unit) (h : m_X5_begin σ i0 x1 i2 = some σf) : CV l yX5_begin (wy yX5_begin cX5_begin 4 none) { frames := 2, cells := 0, slots := 0, locals := 81 } Γ σ [.ref (adr Γ (kR i0)), .int x1, .ref (adr Γ (kT i2))] σf rf := by
  refine met_of (by decide +kernel) hJ (Nat.le_of_ble_eq_true rfl) (fun p e s m below meth c ls X hH hl => ?_)
  have hl : lv_has ls 4 [(0, .ref (adr Γ (kR i0))), (1, .int x1), (2, .ref (adr Γ (kT i2)))] := hl
  have hx := X.1.1
  have hb := X.1.2.1
  rw [m_X5_begin] at h
  refine lv_aload_n hx hb dX5_begin_0 rfl (lv_at hl 0 rfl) ?_
  refine lv_iload_n hx hb dX5_begin_1 rfl (lv_at hl 1 rfl) ?_
  obtain ⟨σ101, e102, h⟩ := st_some h
  refine r_putI X.1 hH (co := 30) (kR_lt hi0) rfl (dR0 _ hi0) rfl inlX5 tyX5 tyX5_ok nmX5 (by decide) (Nat.le_of_ble_eq_true rfl) rfl (by decide +kernel) mw_426 dX5_begin_2 (fun H locs hH => ?_)
  replace hH : HW (IA Γ) Γ σ101 s.heap H locs := by rw [e102]; exact hH
  refine lv_aload_n hx hb dX5_begin_5 rfl (lv_at hl 0 rfl) ?_
  refine r_get X.1 hH (kR_lt hi0) (dR0 _ hi0) rfl inlX5 1 (by decide) (v := .ref (adr Γ (kT (i0 + 2)))) rfl mw_90 dX5_begin_6 ?_
  refine lv_aload_n hx hb dX5_begin_9 rfl (lv_at hl 2 rfl) ?_
  obtain ⟨σ105, hq103, h⟩ := bnd_some h
  refine r_callVV X.1 hl hH (r := ()) (As := [.ref (adr Γ (kT i2))]) (rest := []) (c_X8_copy l X.1.2.2.2.2.2.2.1 σ101 (i0 + 2) (by omega) i2 (by omega) _ () hq103) (cw_V X.1 1 mw_374 mw_428 mw_372 mw_373 mw_12 rfl rfl (by decide +kernel) ⟨Nat.le_of_ble_eq_true rfl, Nat.le_of_ble_eq_true rfl⟩) (r_recv X.1 hH (kT_lt (by omega)) (dT0 _ (by omega)) rfl) rfl rfl (Nat.le_of_ble_eq_true rfl) dX5_begin_10 ⟨Nat.zero_le _, Nat.zero_le _⟩ (fun H locs hH => ?_)
  refine lv_aload_n hx hb dX5_begin_13 rfl (lv_at hl 0 rfl) ?_
  refine r_get X.1 hH (kR_lt hi0) (dR0 _ hi0) rfl inlX5 2 (by decide) (v := .ref (adr Γ (kR i0 + 1))) rfl mw_92 dX5_begin_14 ?_
  refine lv_ldc2 (v := (-3)) hx hb X.1.2.2.2.1 (X.1.hts _ mw_427) dX5_begin_17 ?_
  obtain ⟨σ108, hq106, h⟩ := bnd_some h
  refine r_callSV X.1 hl hH (r := ()) (As := [.ref (adr Γ (kR i0 + 1)), .long ((-3))]) (rest := []) (c_J7_fill_d0a16 l X.1.2.2.2.2.2.2.1 σ105 0 i0 128 (kR i0 + 1) (lR _ hi0 1 (by decide)) (dR1 _ hi0) ((-3)) _ () hq106) (cw_S X.1 2 mw_431 mw_429 mw_430 mw_154 rfl rfl (by decide +kernel) ⟨Nat.le_of_ble_eq_true rfl, Nat.le_of_ble_eq_true rfl⟩) rfl rfl (Nat.le_of_ble_eq_true rfl) dX5_begin_20 ⟨Nat.zero_le _, Nat.zero_le _⟩ (fun H locs hH => ?_)
  refine lv_iconst (v := 0) hx hb dX5_begin_23 (by decide) ?_
  refine lv_istore_n (lv' := [(3, .int 0), (0, .ref (adr Γ (kR i0))), (1, .int x1), (2, .ref (adr Γ (kT i2)))]) hx hb dX5_begin_24 rfl hl (by decide) rfl (fun ls hl => ?_)
  exact b_X5_begin_25 (rf := ()) X i0 hi0 x1 i2 hi2  1000 σ108 0 h _ _ _ hH (lv_sub hl [1, 0] rfl)
/-- CutoffMill$Names.isWanted(II)Z -/
def m_X4_isWanted (σ : Sg) (x1 : Int32) (x2 : Int32) : Option Int32 := chk (inb ((x1 * (8 : Int32)) + (x2 / (16 : Int32))) 64) (if (((σ.1 8 0 ((x1 * (8 : Int32)) + (x2 / (16 : Int32))).toNatClampNeg) >>> ((x2 - x2 / (16 : Int32) * (16 : Int32)) &&& 31)) &&& (1 : Int32)) = 1 then some 1 else some 0)
set_option maxHeartbeats 4000000 in
set_option maxRecDepth 100000 in
theorem c_X4_isWanted (l : Launch) {Γ : GG} (hJ : IJ Γ) (σ : Sg) (x1 : Int32) (x2 : Int32) (rf : Int32) (h : m_X4_isWanted σ x1 x2 = some rf) : CI l yX4_isWanted (wy yX4_isWanted cX4_isWanted 3 (some .boolean)) { frames := 0, cells := 0, slots := 0, locals := 0 } Γ σ [.ref (adr Γ 4), .int x1, .int x2] σ rf := by
  refine met_of (by decide +kernel) hJ (Nat.le_of_ble_eq_true rfl) (fun p e s m below meth c ls X hH hl => ?_)
  have hl : lv_has ls 3 [(0, .ref (adr Γ 4)), (1, .int x1), (2, .int x2)] := hl
  have hx := X.1.1
  have hb := X.1.2.1
  rw [m_X4_isWanted] at h
  refine lv_aload_n hx hb dX4_isWanted_0 rfl (lv_at hl 0 rfl) ?_
  refine r_get X.1 hH (by decide) rfl rfl inlX4 3 (by decide) (v := .ref (adr Γ 7)) rfl mw_42 dX4_isWanted_1 ?_
  refine lv_iload_n hx hb dX4_isWanted_4 rfl (lv_at hl 1 rfl) ?_
  refine lv_bipush (v := 8) hx hb dX4_isWanted_5 (by decide) ?_
  refine lv_imul hx hb dX4_isWanted_7 ?_
  refine lv_iload_n hx hb dX4_isWanted_8 rfl (lv_at hl 2 rfl) ?_
  refine lv_bipush (v := 16) hx hb dX4_isWanted_9 (by decide) ?_
  refine lv_idiv hx hb dX4_isWanted_11 (by decide) ?_
  refine lv_iadd hx hb dX4_isWanted_12 ?_
  obtain ⟨hg101, h⟩ := chk_some h
  refine r_ild X.1 hH (by decide) rfl hg101 dX4_isWanted_13 ?_
  refine lv_iload_n hx hb dX4_isWanted_14 rfl (lv_at hl 2 rfl) ?_
  refine lv_bipush (v := 16) hx hb dX4_isWanted_15 (by decide) ?_
  refine lv_irem hx hb dX4_isWanted_17 (by decide) ?_
  refine lv_ishr hx hb dX4_isWanted_18 ?_
  refine lv_iconst (v := 1) hx hb dX4_isWanted_19 (by decide) ?_
  refine lv_iand hx hb dX4_isWanted_20 ?_
  refine lv_iconst (v := 1) hx hb dX4_isWanted_21 (by decide) ?_
  refine lv_icmp_ne (tgt := 29) hx hb dX4_isWanted_22 (by decide) (fun hc => ?_) (fun hc => ?_)
  · replace h := if_f h hc
    refine lv_iconst (v := 0) hx hb dX4_isWanted_29 (by decide) ?_
    cases h
    exact e_int X hH rfl dX4_isWanted_30
  · replace h := if_t h hc
    refine lv_iconst (v := 1) hx hb dX4_isWanted_25 (by decide) ?_
    refine lv_goto (tgt := 30) hx hb dX4_isWanted_26 (by decide) ?_
    cases h
    exact e_int X hH rfl dX4_isWanted_30
def m_X9_noteAnswers_10 (i0 : Nat) (i1 : Nat) (k2 : Sg → Int32 → Option Sg) : Nat → Sg → Int32 → Int32 → Option Sg
  | 0, _, _, _ => none
  | n + 1, σ, x2, x3 => if 128 ≤ x3 then k2 σ (x2 + 1) else bnd (m_X6_has σ (σ.1 30 i1 0) x2) (fun r102 => if r102 = 0 then k2 σ (x2 + 1) else bnd (m_X4_isWanted σ x2 x3) (fun r105 => if r105 = 0 then m_X9_noteAnswers_10 i0 i1 k2 n σ x2 (x3 + 1) else bnd (m_X9_answerTo σ i0 x3 (σ.1 30 i1 0)) (fun r108 => chk (inb x3 128) (st (wJ σ 0 i1 x3.toNatClampNeg r108) (fun σ111 => m_X9_noteAnswers_10 i0 i1 k2 n σ111 x2 (x3 + 1))))))
set_option maxHeartbeats 4000000 in
set_option maxRecDepth 100000 in
theorem b_X9_noteAnswers_10 {p : Program} {l : Launch} {e : Env} {s : State} {m : MethodId} {args : Array Value} {below : List Frame} {meth : Method} {c : Code} {Γ : GG} (X : MB Γ p s m args meth c cX9_noteAnswers 4 RX9 none) {σf : Sg} {rf : Unit} (i0 : Nat) (hi0 : i0 < 2) (i1 : Nat) (hi1 : i1 < 30) (k2 : Sg → Int32 → Option Sg) (hk2 : (∀ (σ : Sg) (x2 : Int32), k2 σ x2 = some σf → ∀ (H : Heap) (locs : List Loc) (ls : Array Slot), HW (IA Γ) Γ σ s.heap H locs → lv_has ls 4 [(0, .ref (adr Γ (kW i0))), (1, .ref (adr Γ (kR i1))), (2, .int x2)] → W p l e ({ frames := 2, cells := 0, slots := 0, locals := 44 } : Room) s m args below meth c H locs 0 0 (QV Γ σf rf below args s) (F0 m 2 ls []))) : ∀ (n : Nat), (∀ (σ : Sg) (x2 : Int32) (x3 : Int32), (m_X9_noteAnswers_10 i0 i1 k2 n) σ x2 x3 = some σf → ∀ (H : Heap) (locs : List Loc) (ls : Array Slot), HW (IA Γ) Γ σ s.heap H locs → lv_has ls 4 [(0, .ref (adr Γ (kW i0))), (1, .ref (adr Γ (kR i1))), (2, .int x2), (3, .int x3)] → W p l e ({ frames := 2, cells := 0, slots := 0, locals := 44 } : Room) s m args below meth c H locs 0 0 (QV Γ σf rf below args s) (F0 m 10 ls [])) := by
  have hx := X.1.1
  have hb := X.1.2.1
  intro n
  induction n with
  | zero => intro σ x2 x3 h; rw [m_X9_noteAnswers_10] at h; cases h
  | succ n ih =>
    intro σ x2 x3 h H locs ls hH hl
    rw [m_X9_noteAnswers_10] at h
    refine lv_iload_n hx hb dX9_noteAnswers_10 rfl (lv_at hl 3 rfl) ?_
    refine lv_sipush (v := 128) hx hb dX9_noteAnswers_11 (by decide) ?_
    refine lv_icmp_ge (tgt := 61) hx hb dX9_noteAnswers_14 (by decide) (fun hc => ?_) (fun hc => ?_)
    · replace h := if_t h hc
      refine lv_iinc (v := x2 + 1) (lv' := [(2, .int (x2 + 1)), (0, .ref (adr Γ (kW i0))), (1, .ref (adr Γ (kR i1))), (3, .int x3)]) hx hb dX9_noteAnswers_61 hl (k := 2) rfl rfl (by decide) rfl (fun ls hl => ?_)
      refine lv_goto (tgt := 2) hx hb dX9_noteAnswers_64 (by decide) ?_
      exact hk2 σ (x2 + 1) h _ _ _ hH (lv_sub hl [1, 2, 0] rfl)
    · replace h := if_f h hc
      refine lv_aload_n hx hb dX9_noteAnswers_17 rfl (lv_at hl 1 rfl) ?_
      refine r_get X.1 hH (kR_lt hi1) (dR0 _ hi1) rfl inlX5 0 (by decide) (v := .int (σ.1 30 i1 0)) rfl mw_298 dX9_noteAnswers_18 ?_
      refine lv_iload_n hx hb dX9_noteAnswers_21 rfl (lv_at hl 2 rfl) ?_
      obtain ⟨r102, hq101, h⟩ := bnd_some h
      refine r_callSI X.1 hl hH (As := [.int (σ.1 30 i1 0), .int x2]) (rest := []) (c_X6_has l X.1.2.2.2.2.2.2.1 σ (σ.1 30 i1 0) x2 _ hq101) (cw_S X.1 2 mw_204 mw_299 mw_203 mw_20 rfl rfl (by decide +kernel) ⟨Nat.le_of_ble_eq_true rfl, Nat.le_of_ble_eq_true rfl⟩) rfl rfl (Nat.le_of_ble_eq_true rfl) dX9_noteAnswers_22 ⟨Nat.zero_le _, Nat.zero_le _⟩ (fun H locs hH => ?_)
      refine lv_if_eq (tgt := 61) hx hb dX9_noteAnswers_25 (by decide) (fun hc => ?_) (fun hc => ?_)
      · replace h := if_t h hc
        refine lv_iinc (v := x2 + 1) (lv' := [(2, .int (x2 + 1)), (0, .ref (adr Γ (kW i0))), (1, .ref (adr Γ (kR i1))), (3, .int x3)]) hx hb dX9_noteAnswers_61 hl (k := 2) rfl rfl (by decide) rfl (fun ls hl => ?_)
        refine lv_goto (tgt := 2) hx hb dX9_noteAnswers_64 (by decide) ?_
        exact hk2 σ (x2 + 1) h _ _ _ hH (lv_sub hl [1, 2, 0] rfl)
      · replace h := if_f h hc
        refine lv_aload_n hx hb dX9_noteAnswers_28 rfl (lv_at hl 0 rfl) ?_
        refine r_get X.1 hH (kW_lt hi0) (dW0 _ hi0) rfl inlX9 1 (by decide) (v := .ref (adr Γ 4)) rfl mw_65 dX9_noteAnswers_29 ?_
        refine lv_iload_n hx hb dX9_noteAnswers_32 rfl (lv_at hl 2 rfl) ?_
        refine lv_iload_n hx hb dX9_noteAnswers_33 rfl (lv_at hl 3 rfl) ?_
        obtain ⟨r105, hq104, h⟩ := bnd_some h
        refine r_callVI X.1 hl hH (As := [.int x2, .int x3]) (rest := []) (c_X4_isWanted l X.1.2.2.2.2.2.2.1 σ x2 x3 _ hq104) (cw_V X.1 2 mw_439 mw_436 mw_437 mw_438 mw_16 rfl rfl (by decide +kernel) ⟨Nat.le_of_ble_eq_true rfl, Nat.le_of_ble_eq_true rfl⟩) (r_recv X.1 hH (by decide) rfl rfl) rfl rfl (Nat.le_of_ble_eq_true rfl) dX9_noteAnswers_34 ⟨Nat.zero_le _, Nat.zero_le _⟩ (fun H locs hH => ?_)
        refine lv_if_eq (tgt := 55) hx hb dX9_noteAnswers_37 (by decide) (fun hc => ?_) (fun hc => ?_)
        · replace h := if_t h hc
          refine lv_iinc (v := x3 + 1) (lv' := [(3, .int (x3 + 1)), (0, .ref (adr Γ (kW i0))), (1, .ref (adr Γ (kR i1))), (2, .int x2)]) hx hb dX9_noteAnswers_55 hl (k := 3) rfl rfl (by decide) rfl (fun ls hl => ?_)
          refine lv_goto (tgt := 10) hx hb dX9_noteAnswers_58 (by decide) ?_
          exact ih σ x2 (x3 + 1) h _ _ _ hH (lv_sub hl [1, 2, 3, 0] rfl)
        · replace h := if_f h hc
          refine lv_aload_n hx hb dX9_noteAnswers_40 rfl (lv_at hl 1 rfl) ?_
          refine r_get X.1 hH (kR_lt hi1) (dR0 _ hi1) rfl inlX5 2 (by decide) (v := .ref (adr Γ (kR i1 + 1))) rfl mw_323 dX9_noteAnswers_41 ?_
          refine lv_iload_n hx hb dX9_noteAnswers_44 rfl (lv_at hl 3 rfl) ?_
          refine lv_aload_n hx hb dX9_noteAnswers_45 rfl (lv_at hl 0 rfl) ?_
          refine lv_iload_n hx hb dX9_noteAnswers_46 rfl (lv_at hl 3 rfl) ?_
          refine lv_aload_n hx hb dX9_noteAnswers_47 rfl (lv_at hl 1 rfl) ?_
          refine r_get X.1 hH (kR_lt hi1) (dR0 _ hi1) rfl inlX5 0 (by decide) (v := .int (σ.1 30 i1 0)) rfl mw_298 dX9_noteAnswers_48 ?_
          obtain ⟨r108, hq107, h⟩ := bnd_some h
          refine r_callVL X.1 hl hH (As := [.int x3, .int (σ.1 30 i1 0)]) (rest := [.int x3, .ref (adr Γ (kR i1 + 1))]) (c_X9_answerTo l X.1.2.2.2.2.2.2.1 σ i0 hi0 x3 (σ.1 30 i1 0) _ hq107) (cw_V X.1 2 mw_328 mw_325 mw_326 mw_327 mw_24 rfl rfl (by decide +kernel) ⟨Nat.le_of_ble_eq_true rfl, Nat.le_of_ble_eq_true rfl⟩) (r_recv X.1 hH (kW_lt hi0) (dW0 _ hi0) rfl) rfl rfl (Nat.le_of_ble_eq_true rfl) dX9_noteAnswers_51 ⟨Nat.zero_le _, Nat.zero_le _⟩ (fun H locs hH => ?_)
          obtain ⟨hg110, h⟩ := chk_some h
          obtain ⟨σ111, e112, h⟩ := st_some h
          refine r_lst X.1 hH (lR _ hi1 1 (by decide)) (dR1 _ hi1) hg110 dX9_noteAnswers_54 (fun H locs hH => ?_)
          replace hH : HW (IA Γ) Γ σ111 s.heap H locs := by rw [e112]; exact hH
          refine lv_iinc (v := x3 + 1) (lv' := [(3, .int (x3 + 1)), (0, .ref (adr Γ (kW i0))), (1, .ref (adr Γ (kR i1))), (2, .int x2)]) hx hb dX9_noteAnswers_55 hl (k := 3) rfl rfl (by decide) rfl (fun ls hl => ?_)
          refine lv_goto (tgt := 10) hx hb dX9_noteAnswers_58 (by decide) ?_
          exact ih σ111 x2 (x3 + 1) h _ _ _ hH (lv_sub hl [1, 2, 3, 0] rfl)
def m_X9_noteAnswers_2 (i0 : Nat) (i1 : Nat)  : Nat → Sg → Int32 → Option Sg
  | 0, _, _ => none
  | n + 1, σ, x2 => if 8 ≤ x2 then some σ else m_X9_noteAnswers_10 i0 i1 (m_X9_noteAnswers_2 i0 i1 n) 1000 σ x2 0
set_option maxHeartbeats 4000000 in
set_option maxRecDepth 100000 in
theorem b_X9_noteAnswers_2 {p : Program} {l : Launch} {e : Env} {s : State} {m : MethodId} {args : Array Value} {below : List Frame} {meth : Method} {c : Code} {Γ : GG} (X : MB Γ p s m args meth c cX9_noteAnswers 4 RX9 none) {σf : Sg} {rf : Unit} (i0 : Nat) (hi0 : i0 < 2) (i1 : Nat) (hi1 : i1 < 30) : ∀ (n : Nat), (∀ (σ : Sg) (x2 : Int32), (m_X9_noteAnswers_2 i0 i1 n) σ x2 = some σf → ∀ (H : Heap) (locs : List Loc) (ls : Array Slot), HW (IA Γ) Γ σ s.heap H locs → lv_has ls 4 [(0, .ref (adr Γ (kW i0))), (1, .ref (adr Γ (kR i1))), (2, .int x2)] → W p l e ({ frames := 2, cells := 0, slots := 0, locals := 44 } : Room) s m args below meth c H locs 0 0 (QV Γ σf rf below args s) (F0 m 2 ls [])) := by
  have hx := X.1.1
  have hb := X.1.2.1
  intro n
  induction n with
  | zero => intro σ x2 h; rw [m_X9_noteAnswers_2] at h; cases h
  | succ n ih =>
    intro σ x2 h H locs ls hH hl
    rw [m_X9_noteAnswers_2] at h
    refine lv_iload_n hx hb dX9_noteAnswers_2 rfl (lv_at hl 2 rfl) ?_
    refine lv_bipush (v := 8) hx hb dX9_noteAnswers_3 (by decide) ?_
    refine lv_icmp_ge (tgt := 67) hx hb dX9_noteAnswers_5 (by decide) (fun hc => ?_) (fun hc => ?_)
    · replace h := if_t h hc
      cases h
      exact e_void (v := rf) X hH dX9_noteAnswers_67
    · replace h := if_f h hc
      refine lv_iconst (v := 0) hx hb dX9_noteAnswers_8 (by decide) ?_
      refine lv_istore_n (lv' := [(3, .int 0), (0, .ref (adr Γ (kW i0))), (1, .ref (adr Γ (kR i1))), (2, .int x2)]) hx hb dX9_noteAnswers_9 rfl hl (by decide) rfl (fun ls hl => ?_)
      exact b_X9_noteAnswers_10 (rf := ()) X i0 hi0 i1 hi1 (m_X9_noteAnswers_2 i0 i1 n) ih 1000 σ x2 0 h _ _ _ hH (lv_sub hl [1, 2, 3, 0] rfl)
/-- CutoffMill$Works.noteAnswers(LCutoffMill$Result;)V -/
def m_X9_noteAnswers (σ : Sg) (i0 : Nat) (i1 : Nat) : Option Sg := m_X9_noteAnswers_2 i0 i1 1000 σ 0
set_option maxHeartbeats 4000000 in
set_option maxRecDepth 100000 in
theorem c_X9_noteAnswers (l : Launch) {Γ : GG} (hJ : IJ Γ) (σ : Sg) (i0 : Nat) (hi0 : i0 < 2) (i1 : Nat) (hi1 : i1 < 30) (σf : Sg) (rf : Unit) (h : m_X9_noteAnswers σ i0 i1 = some σf) : CV l yX9_noteAnswers (wy yX9_noteAnswers cX9_noteAnswers 4 none) { frames := 2, cells := 0, slots := 0, locals := 44 } Γ σ [.ref (adr Γ (kW i0)), .ref (adr Γ (kR i1))] σf rf := by
  refine met_of (by decide +kernel) hJ (Nat.le_of_ble_eq_true rfl) (fun p e s m below meth c ls X hH hl => ?_)
  have hl : lv_has ls 4 [(0, .ref (adr Γ (kW i0))), (1, .ref (adr Γ (kR i1)))] := hl
  have hx := X.1.1
  have hb := X.1.2.1
  rw [m_X9_noteAnswers] at h
  refine lv_iconst (v := 0) hx hb dX9_noteAnswers_0 (by decide) ?_
  refine lv_istore_n (lv' := [(2, .int 0), (0, .ref (adr Γ (kW i0))), (1, .ref (adr Γ (kR i1)))]) hx hb dX9_noteAnswers_1 rfl hl (by decide) rfl (fun ls hl => ?_)
  exact b_X9_noteAnswers_2 (rf := ()) X i0 hi0 i1 hi1  1000 σ 0 h _ _ _ hH (lv_sub hl [1, 2, 0] rfl)
