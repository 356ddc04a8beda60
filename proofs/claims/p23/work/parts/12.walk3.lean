/-! WALKS, laid by wip/p23/gen.py: X6_placeModules, X6_settleOrder, X6_settle, X10_settle, X10_module, X10_checkModule, X10_checkWithin, X8_declarationsOf, X1_of, X10_declare, X10_drop, X2_of, X8_addImport, X10_bring -/
def m_X6_placeModules_2 (x1 : Int32) (x2 : Int32)  : Nat → Sg → Int32 → Option Sg
  | 0, _, _ => none
  | n + 1, σ, x3 => if (σ.1 29 0 0) ≤ x3 then some σ else bnd (m_X6_has σ x1 x3) (fun r102 => if r102 = 0 then m_X6_placeModules_2 x1 x2 n σ (x3 + 1) else chk (inb x3 8) (st (wI σ 16 0 x3.toNatClampNeg x2) (fun σ105 => m_X6_placeModules_2 x1 x2 n σ105 (x3 + 1))))
set_option maxHeartbeats 4000000 in
set_option maxRecDepth 100000 in
theorem b_X6_placeModules_2 {p : Program} {l : Launch} {e : Env} {s : State} {m : MethodId} {args : Array Value} {below : List Frame} {meth : Method} {c : Code} {Γ : GG} (X : MB Γ p s m args meth c cX6_placeModules 4 RX6 none) {σf : Sg} {rf : Unit} (x1 : Int32) (x2 : Int32) : ∀ (n : Nat), (∀ (σ : Sg) (x3 : Int32), (m_X6_placeModules_2 x1 x2 n) σ x3 = some σf → ∀ (H : Heap) (locs : List Loc) (ls : Array Slot), HW (IA Γ) Γ σ s.heap H locs → lv_has ls 4 [(0, .ref (adr Γ 12)), (1, .int x1), (2, .int x2), (3, .int x3)] → W p l e ({ frames := 1, cells := 0, slots := 0, locals := 21 } : Room) s m args below meth c H locs 0 0 (QV Γ σf rf below args s) (F0 m 2 ls [])) := by
  have hx := X.1.1
  have hb := X.1.2.1
  intro n
  induction n with
  | zero => intro σ x3 h; rw [m_X6_placeModules_2] at h; cases h
  | succ n ih =>
    intro σ x3 h H locs ls hH hl
    rw [m_X6_placeModules_2] at h
    refine lv_iload_n hx hb dX6_placeModules_2 rfl (lv_at hl 3 rfl) ?_
    refine lv_aload_n hx hb dX6_placeModules_3 rfl (lv_at hl 0 rfl) ?_
    refine r_get X.1 hH (by decide) rfl rfl inlX6 0 (by decide) (v := .ref (adr Γ (kT 0))) rfl mw_57 dX6_placeModules_4 ?_
    refine r_get X.1 hH (kT_lt (by omega)) (dT0 _ (by omega)) rfl inlX8 3 (by decide) (v := .int (σ.1 29 0 0)) rfl mw_223 dX6_placeModules_7 ?_
    refine lv_icmp_ge (tgt := 34) hx hb dX6_placeModules_10 (by decide) (fun hc => ?_) (fun hc => ?_)
    · replace h := if_t h hc
      cases h
      exact e_void (v := rf) X hH dX6_placeModules_34
    · replace h := if_f h hc
      refine lv_iload_n hx hb dX6_placeModules_13 rfl (lv_at hl 1 rfl) ?_
      refine lv_iload_n hx hb dX6_placeModules_14 rfl (lv_at hl 3 rfl) ?_
      obtain ⟨r102, hq101, h⟩ := bnd_some h
      refine r_callSI X.1 hl hH (As := [.int x1, .int x3]) (rest := []) (c_X6_has l X.1.2.2.2.2.2.2.1 σ x1 x3 _ hq101) (cw_S X.1 2 mw_204 mw_231 mw_203 mw_20 rfl rfl (by decide +kernel) ⟨Nat.le_of_ble_eq_true rfl, Nat.le_of_ble_eq_true rfl⟩) rfl rfl (Nat.le_of_ble_eq_true rfl) dX6_placeModules_15 ⟨Nat.zero_le _, Nat.zero_le _⟩ (fun H locs hH => ?_)
      refine lv_if_eq (tgt := 28) hx hb dX6_placeModules_18 (by decide) (fun hc => ?_) (fun hc => ?_)
      · replace h := if_t h hc
        refine lv_iinc (v := x3 + 1) (lv' := [(3, .int (x3 + 1)), (0, .ref (adr Γ 12)), (1, .int x1), (2, .int x2)]) hx hb dX6_placeModules_28 hl (k := 3) rfl rfl (by decide) rfl (fun ls hl => ?_)
        refine lv_goto (tgt := 2) hx hb dX6_placeModules_31 (by decide) ?_
        exact ih σ (x3 + 1) h _ _ _ hH (lv_sub hl [1, 2, 3, 0] rfl)
      · replace h := if_f h hc
        refine lv_aload_n hx hb dX6_placeModules_21 rfl (lv_at hl 0 rfl) ?_
        refine r_get X.1 hH (by decide) rfl rfl inlX6 4 (by decide) (v := .ref (adr Γ 16)) rfl mw_55 dX6_placeModules_22 ?_
        refine lv_iload_n hx hb dX6_placeModules_25 rfl (lv_at hl 3 rfl) ?_
        refine lv_iload_n hx hb dX6_placeModules_26 rfl (lv_at hl 2 rfl) ?_
        obtain ⟨hg104, h⟩ := chk_some h
        obtain ⟨σ105, e106, h⟩ := st_some h
        refine r_ist X.1 hH (by decide) rfl hg104 dX6_placeModules_27 (fun H locs hH => ?_)
        replace hH : HW (IA Γ) Γ σ105 s.heap H locs := by rw [e106]; exact hH
        refine lv_iinc (v := x3 + 1) (lv' := [(3, .int (x3 + 1)), (0, .ref (adr Γ 12)), (1, .int x1), (2, .int x2)]) hx hb dX6_placeModules_28 hl (k := 3) rfl rfl (by decide) rfl (fun ls hl => ?_)
        refine lv_goto (tgt := 2) hx hb dX6_placeModules_31 (by decide) ?_
        exact ih σ105 (x3 + 1) h _ _ _ hH (lv_sub hl [1, 2, 3, 0] rfl)
/-- CutoffMill$Rings.placeModules(II)V -/
def m_X6_placeModules (σ : Sg) (x1 : Int32) (x2 : Int32) : Option Sg := m_X6_placeModules_2 x1 x2 1000 σ 0
set_option maxHeartbeats 4000000 in
set_option maxRecDepth 100000 in
theorem c_X6_placeModules (l : Launch) {Γ : GG} (hJ : IJ Γ) (σ : Sg) (x1 : Int32) (x2 : Int32) (σf : Sg) (rf : Unit) (h : m_X6_placeModules σ x1 x2 = some σf) : CV l yX6_placeModules (wy yX6_placeModules cX6_placeModules 4 none) { frames := 1, cells := 0, slots := 0, locals := 21 } Γ σ [.ref (adr Γ 12), .int x1, .int x2] σf rf := by
  refine met_of (by decide +kernel) hJ (Nat.le_of_ble_eq_true rfl) (fun p e s m below meth c ls X hH hl => ?_)
  have hl : lv_has ls 4 [(0, .ref (adr Γ 12)), (1, .int x1), (2, .int x2)] := hl
  have hx := X.1.1
  have hb := X.1.2.1
  rw [m_X6_placeModules] at h
  refine lv_iconst (v := 0) hx hb dX6_placeModules_0 (by decide) ?_
  refine lv_istore_n (lv' := [(3, .int 0), (0, .ref (adr Γ 12)), (1, .int x1), (2, .int x2)]) hx hb dX6_placeModules_1 rfl hl (by decide) rfl (fun ls hl => ?_)
  exact b_X6_placeModules_2 (rf := ()) X x1 x2  1000 σ 0 h _ _ _ hH (lv_sub hl [1, 2, 3, 0] rfl)
def m_X6_settleOrder_9   : Nat → Sg → Int32 → Int32 → Option Sg
  | 0, _, _, _ => none
  | n + 1, σ, x1, x2 => if (σ.1 29 0 0) ≤ x2 then some σ else bnd (m_X6_nextBehind σ x1) (fun r104 => if r104 = ((-1)) then m_X6_settleOrder_9  n σ x1 (x2 + 1) else chk (inb r104 8) (chk (inb (σ.1 18 0 0) 8) (st (wI σ 17 0 (σ.1 18 0 0).toNatClampNeg (σ.1 15 0 r104.toNatClampNeg)) (fun σ108 => chk (inb r104 8) (bnd (m_X6_placeModules σ108 (σ108.1 15 0 r104.toNatClampNeg) (σ108.1 18 0 0)) (fun σ113 => chk (inb r104 8) (st (wI σ113 18 0 0 ((σ113.1 18 0 0) + (1 : Int32))) (fun σ115 => m_X6_settleOrder_9  n σ115 (x1 ||| (σ113.1 15 0 r104.toNatClampNeg)) (x2 + 1)))))))))
set_option maxHeartbeats 4000000 in
set_option maxRecDepth 100000 in
theorem b_X6_settleOrder_9 {p : Program} {l : Launch} {e : Env} {s : State} {m : MethodId} {args : Array Value} {below : List Frame} {meth : Method} {c : Code} {Γ : GG} (X : MB Γ p s m args meth c cX6_settleOrder 4 RX6 none) {σf : Sg} {rf : Unit}  : ∀ (n : Nat), (∀ (σ : Sg) (x1 : Int32) (x2 : Int32), (m_X6_settleOrder_9  n) σ x1 x2 = some σf → ∀ (H : Heap) (locs : List Loc) (ls : Array Slot), HW (IA Γ) Γ σ s.heap H locs → lv_has ls 4 [(0, .ref (adr Γ 12)), (1, .int x1), (2, .int x2)] → W p l e ({ frames := 2, cells := 0, slots := 0, locals := 44 } : Room) s m args below meth c H locs 0 0 (QV Γ σf rf below args s) (F0 m 9 ls [])) := by
  have hx := X.1.1
  have hb := X.1.2.1
  intro n
  induction n with
  | zero => intro σ x1 x2 h; rw [m_X6_settleOrder_9] at h; cases h
  | succ n ih =>
    intro σ x1 x2 h H locs ls hH hl
    rw [m_X6_settleOrder_9] at h
    refine lv_iload_n hx hb dX6_settleOrder_9 rfl (lv_at hl 2 rfl) ?_
    refine lv_aload_n hx hb dX6_settleOrder_10 rfl (lv_at hl 0 rfl) ?_
    refine r_get X.1 hH (by decide) rfl rfl inlX6 0 (by decide) (v := .ref (adr Γ (kT 0))) rfl mw_57 dX6_settleOrder_11 ?_
    refine r_get X.1 hH (kT_lt (by omega)) (dT0 _ (by omega)) rfl inlX8 3 (by decide) (v := .int (σ.1 29 0 0)) rfl mw_223 dX6_settleOrder_14 ?_
    refine lv_icmp_ge (tgt := 85) hx hb dX6_settleOrder_17 (by decide) (fun hc => ?_) (fun hc => ?_)
    · replace h := if_t h hc
      cases h
      exact e_void (v := rf) X hH dX6_settleOrder_85
    · replace h := if_f h hc
      refine lv_aload_n hx hb dX6_settleOrder_20 rfl (lv_at hl 0 rfl) ?_
      refine lv_iload_n hx hb dX6_settleOrder_21 rfl (lv_at hl 1 rfl) ?_
      obtain ⟨r104, hq103, h⟩ := bnd_some h
      refine r_callVI X.1 hl hH (As := [.int x1]) (rest := []) (c_X6_nextBehind l X.1.2.2.2.2.2.2.1 σ x1 _ hq103) (cw_V X.1 1 mw_244 mw_241 mw_242 mw_243 mw_20 rfl rfl (by decide +kernel) ⟨Nat.le_of_ble_eq_true rfl, Nat.le_of_ble_eq_true rfl⟩) (r_recv X.1 hH (by decide) rfl rfl) rfl rfl (Nat.le_of_ble_eq_true rfl) dX6_settleOrder_22 ⟨Nat.zero_le _, Nat.zero_le _⟩ (fun H locs hH => ?_)
      refine lv_istore_n (lv' := [(3, .int r104), (0, .ref (adr Γ 12)), (1, .int x1), (2, .int x2)]) hx hb dX6_settleOrder_25 rfl hl (by decide) rfl (fun ls hl => ?_)
      refine lv_iload_n hx hb dX6_settleOrder_26 rfl (lv_at hl 0 rfl) ?_
      refine lv_iconst (v := (-1)) hx hb dX6_settleOrder_27 (by decide) ?_
      refine lv_icmp_eq (tgt := 79) hx hb dX6_settleOrder_28 (by decide) (fun hc => ?_) (fun hc => ?_)
      · replace h := if_t h hc
        refine lv_iinc (v := x2 + 1) (lv' := [(2, .int (x2 + 1)), (3, .int r104), (0, .ref (adr Γ 12)), (1, .int x1)]) hx hb dX6_settleOrder_79 hl (k := 3) rfl rfl (by decide) rfl (fun ls hl => ?_)
        refine lv_goto (tgt := 9) hx hb dX6_settleOrder_82 (by decide) ?_
        exact ih σ x1 (x2 + 1) h _ _ _ hH (lv_sub hl [2, 3, 0] rfl)
      · replace h := if_f h hc
        refine lv_aload_n hx hb dX6_settleOrder_31 rfl (lv_at hl 1 rfl) ?_
        refine r_get X.1 hH (by decide) rfl rfl inlX6 5 (by decide) (v := .ref (adr Γ 17)) rfl mw_56 dX6_settleOrder_32 ?_
        refine lv_aload_n hx hb dX6_settleOrder_35 rfl (lv_at hl 1 rfl) ?_
        refine r_get X.1 hH (by decide) rfl rfl inlX6 6 (by decide) (v := .int (σ.1 18 0 0)) rfl mw_240 dX6_settleOrder_36 ?_
        refine lv_aload_n hx hb dX6_settleOrder_39 rfl (lv_at hl 1 rfl) ?_
        refine r_get X.1 hH (by decide) rfl rfl inlX6 3 (by decide) (v := .ref (adr Γ 15)) rfl mw_54 dX6_settleOrder_40 ?_
        refine lv_iload_n hx hb dX6_settleOrder_43 rfl (lv_at hl 0 rfl) ?_
        obtain ⟨hg106, h⟩ := chk_some h
        refine r_ild X.1 hH (by decide) rfl hg106 dX6_settleOrder_44 ?_
        obtain ⟨hg107, h⟩ := chk_some h
        obtain ⟨σ108, e109, h⟩ := st_some h
        refine r_ist X.1 hH (by decide) rfl hg107 dX6_settleOrder_45 (fun H locs hH => ?_)
        replace hH : HW (IA Γ) Γ σ108 s.heap H locs := by rw [e109]; exact hH
        refine lv_aload_n hx hb dX6_settleOrder_46 rfl (lv_at hl 1 rfl) ?_
        refine lv_aload_n hx hb dX6_settleOrder_47 rfl (lv_at hl 1 rfl) ?_
        refine r_get X.1 hH (by decide) rfl rfl inlX6 3 (by decide) (v := .ref (adr Γ 15)) rfl mw_54 dX6_settleOrder_48 ?_
        refine lv_iload_n hx hb dX6_settleOrder_51 rfl (lv_at hl 0 rfl) ?_
        obtain ⟨hg110, h⟩ := chk_some h
        refine r_ild X.1 hH (by decide) rfl hg110 dX6_settleOrder_52 ?_
        refine lv_aload_n hx hb dX6_settleOrder_53 rfl (lv_at hl 1 rfl) ?_
        refine r_get X.1 hH (by decide) rfl rfl inlX6 6 (by decide) (v := .int (σ108.1 18 0 0)) rfl mw_240 dX6_settleOrder_54 ?_
        obtain ⟨σ113, hq111, h⟩ := bnd_some h
        refine r_callVV X.1 hl hH (r := ()) (As := [.int (σ108.1 15 0 r104.toNatClampNeg), .int (σ108.1 18 0 0)]) (rest := []) (c_X6_placeModules l X.1.2.2.2.2.2.2.1 σ108 (σ108.1 15 0 r104.toNatClampNeg) (σ108.1 18 0 0) _ () hq111) (cw_V X.1 2 mw_248 mw_245 mw_246 mw_247 mw_20 rfl rfl (by decide +kernel) ⟨Nat.le_of_ble_eq_true rfl, Nat.le_of_ble_eq_true rfl⟩) (r_recv X.1 hH (by decide) rfl rfl) rfl rfl (Nat.le_of_ble_eq_true rfl) dX6_settleOrder_57 ⟨Nat.zero_le _, Nat.zero_le _⟩ (fun H locs hH => ?_)
        refine lv_iload_n hx hb dX6_settleOrder_60 rfl (lv_at hl 2 rfl) ?_
        refine lv_aload_n hx hb dX6_settleOrder_61 rfl (lv_at hl 1 rfl) ?_
        refine r_get X.1 hH (by decide) rfl rfl inlX6 3 (by decide) (v := .ref (adr Γ 15)) rfl mw_54 dX6_settleOrder_62 ?_
        refine lv_iload_n hx hb dX6_settleOrder_65 rfl (lv_at hl 0 rfl) ?_
        obtain ⟨hg114, h⟩ := chk_some h
        refine r_ild X.1 hH (by decide) rfl hg114 dX6_settleOrder_66 ?_
        refine lv_ior hx hb dX6_settleOrder_67 ?_
        refine lv_istore_n (lv' := [(1, .int (x1 ||| (σ113.1 15 0 r104.toNatClampNeg))), (3, .int r104), (0, .ref (adr Γ 12)), (2, .int x2)]) hx hb dX6_settleOrder_68 rfl hl (by decide) rfl (fun ls hl => ?_)
        refine lv_aload_n hx hb dX6_settleOrder_69 rfl (lv_at hl 2 rfl) ?_
        refine lv_dup hx hb dX6_settleOrder_70 rfl ?_
        refine r_get X.1 hH (by decide) rfl rfl inlX6 6 (by decide) (v := .int (σ113.1 18 0 0)) rfl mw_240 dX6_settleOrder_71 ?_
        refine lv_iconst (v := 1) hx hb dX6_settleOrder_74 (by decide) ?_
        refine lv_iadd hx hb dX6_settleOrder_75 ?_
        obtain ⟨σ115, e116, h⟩ := st_some h
        refine r_putI X.1 hH (co := 18) (by decide) rfl rfl rfl inlX6 tyX6 tyX6_ok nmX6 (by decide) (Nat.le_of_ble_eq_true rfl) rfl (by decide +kernel) mw_240 dX6_settleOrder_76 (fun H locs hH => ?_)
        replace hH : HW (IA Γ) Γ σ115 s.heap H locs := by rw [e116]; exact hH
        refine lv_iinc (v := x2 + 1) (lv' := [(2, .int (x2 + 1)), (1, .int (x1 ||| (σ113.1 15 0 r104.toNatClampNeg))), (3, .int r104), (0, .ref (adr Γ 12))]) hx hb dX6_settleOrder_79 hl (k := 3) rfl rfl (by decide) rfl (fun ls hl => ?_)
        refine lv_goto (tgt := 9) hx hb dX6_settleOrder_82 (by decide) ?_
        exact ih σ115 (x1 ||| (σ113.1 15 0 r104.toNatClampNeg)) (x2 + 1) h _ _ _ hH (lv_sub hl [3, 1, 0] rfl)
/-- CutoffMill$Rings.settleOrder()V -/
def m_X6_settleOrder (σ : Sg)  : Option Sg := st (wI σ 18 0 0 0) (fun σ101 => m_X6_settleOrder_9  1000 σ101 0 0)
set_option maxHeartbeats 4000000 in
set_option maxRecDepth 100000 in
theorem c_X6_settleOrder (l : Launch) {Γ : GG} (hJ : IJ Γ) (σ : Sg)  (σf : Sg) (rf : Unit) (h : m_X6_settleOrder σ  = some σf) : CV l yX6_settleOrder (wy yX6_settleOrder cX6_settleOrder 4 none) { frames := 2, cells := 0, slots := 0, locals := 44 } Γ σ [.ref (adr Γ 12)] σf rf := by
  refine met_of (by decide +kernel) hJ (Nat.le_of_ble_eq_true rfl) (fun p e s m below meth c ls X hH hl => ?_)
  have hl : lv_has ls 4 [(0, .ref (adr Γ 12))] := hl
  have hx := X.1.1
  have hb := X.1.2.1
  rw [m_X6_settleOrder] at h
  refine lv_aload_n hx hb dX6_settleOrder_0 rfl (lv_at hl 0 rfl) ?_
  refine lv_iconst (v := 0) hx hb dX6_settleOrder_1 (by decide) ?_
  obtain ⟨σ101, e102, h⟩ := st_some h
  refine r_putI X.1 hH (co := 18) (by decide) rfl rfl rfl inlX6 tyX6 tyX6_ok nmX6 (by decide) (Nat.le_of_ble_eq_true rfl) rfl (by decide +kernel) mw_240 dX6_settleOrder_2 (fun H locs hH => ?_)
  replace hH : HW (IA Γ) Γ σ101 s.heap H locs := by rw [e102]; exact hH
  refine lv_iconst (v := 0) hx hb dX6_settleOrder_5 (by decide) ?_
  refine lv_istore_n (lv' := [(1, .int 0), (0, .ref (adr Γ 12))]) hx hb dX6_settleOrder_6 rfl hl (by decide) rfl (fun ls hl => ?_)
  refine lv_iconst (v := 0) hx hb dX6_settleOrder_7 (by decide) ?_
  refine lv_istore_n (lv' := [(2, .int 0), (1, .int 0), (0, .ref (adr Γ 12))]) hx hb dX6_settleOrder_8 rfl hl (by decide) rfl (fun ls hl => ?_)
  exact b_X6_settleOrder_9 (rf := ()) X   1000 σ101 0 0 h _ _ _ hH (lv_sub hl [2, 1, 0] rfl)
def m_X6_settle_6   : Nat → Sg → Int32 → Option Sg
  | 0, _, _ => none
  | n + 1, σ, x1 => if (σ.1 29 0 0) ≤ x1 then bnd (m_X6_settleOrder σ) (fun σ106 => some σ106) else bnd (m_X6_ringAround σ x1) (fun r108 => chk (inb x1 8) (st (wI σ 15 0 x1.toNatClampNeg r108) (fun σ111 => m_X6_settle_6  n σ111 (x1 + 1))))
set_option maxHeartbeats 4000000 in
set_option maxRecDepth 100000 in
theorem b_X6_settle_6 {p : Program} {l : Launch} {e : Env} {s : State} {m : MethodId} {args : Array Value} {below : List Frame} {meth : Method} {c : Code} {Γ : GG} (X : MB Γ p s m args meth c cX6_settle 2 RX6 none) {σf : Sg} {rf : Unit}  : ∀ (n : Nat), (∀ (σ : Sg) (x1 : Int32), (m_X6_settle_6  n) σ x1 = some σf → ∀ (H : Heap) (locs : List Loc) (ls : Array Slot), HW (IA Γ) Γ σ s.heap H locs → lv_has ls 2 [(0, .ref (adr Γ 12)), (1, .int x1)] → W p l e ({ frames := 3, cells := 0, slots := 0, locals := 67 } : Room) s m args below meth c H locs 0 0 (QV Γ σf rf below args s) (F0 m 6 ls [])) := by
  have hx := X.1.1
  have hb := X.1.2.1
  intro n
  induction n with
  | zero => intro σ x1 h; rw [m_X6_settle_6] at h; cases h
  | succ n ih =>
    intro σ x1 h H locs ls hH hl
    rw [m_X6_settle_6] at h
    refine lv_iload_n hx hb dX6_settle_6 rfl (lv_at hl 1 rfl) ?_
    refine lv_aload_n hx hb dX6_settle_7 rfl (lv_at hl 0 rfl) ?_
    refine r_get X.1 hH (by decide) rfl rfl inlX6 0 (by decide) (v := .ref (adr Γ (kT 0))) rfl mw_57 dX6_settle_8 ?_
    refine r_get X.1 hH (kT_lt (by omega)) (dT0 _ (by omega)) rfl inlX8 3 (by decide) (v := .int (σ.1 29 0 0)) rfl mw_223 dX6_settle_11 ?_
    refine lv_icmp_ge (tgt := 34) hx hb dX6_settle_14 (by decide) (fun hc => ?_) (fun hc => ?_)
    · replace h := if_t h hc
      refine lv_aload_n hx hb dX6_settle_34 rfl (lv_at hl 0 rfl) ?_
      obtain ⟨σ106, hq104, h⟩ := bnd_some h
      refine r_callVV X.1 hl hH (r := ()) (As := []) (rest := []) (c_X6_settleOrder l X.1.2.2.2.2.2.2.1 σ  _ () hq104) (cw_V X.1 0 mw_239 mw_236 mw_237 mw_238 mw_20 rfl rfl (by decide +kernel) ⟨Nat.le_of_ble_eq_true rfl, Nat.le_of_ble_eq_true rfl⟩) (r_recv X.1 hH (by decide) rfl rfl) rfl rfl (Nat.le_of_ble_eq_true rfl) dX6_settle_35 ⟨Nat.zero_le _, Nat.zero_le _⟩ (fun H locs hH => ?_)
      cases h
      exact e_void (v := rf) X hH dX6_settle_38
    · replace h := if_f h hc
      refine lv_aload_n hx hb dX6_settle_17 rfl (lv_at hl 0 rfl) ?_
      refine r_get X.1 hH (by decide) rfl rfl inlX6 3 (by decide) (v := .ref (adr Γ 15)) rfl mw_54 dX6_settle_18 ?_
      refine lv_iload_n hx hb dX6_settle_21 rfl (lv_at hl 1 rfl) ?_
      refine lv_aload_n hx hb dX6_settle_22 rfl (lv_at hl 0 rfl) ?_
      refine lv_iload_n hx hb dX6_settle_23 rfl (lv_at hl 1 rfl) ?_
      obtain ⟨r108, hq107, h⟩ := bnd_some h
      refine r_callVI X.1 hl hH (As := [.int x1]) (rest := [.int x1, .ref (adr Γ 15)]) (c_X6_ringAround l X.1.2.2.2.2.2.2.1 σ x1 _ hq107) (cw_V X.1 1 mw_235 mw_232 mw_233 mw_234 mw_20 rfl rfl (by decide +kernel) ⟨Nat.le_of_ble_eq_true rfl, Nat.le_of_ble_eq_true rfl⟩) (r_recv X.1 hH (by decide) rfl rfl) rfl rfl (Nat.le_of_ble_eq_true rfl) dX6_settle_24 ⟨Nat.zero_le _, Nat.zero_le _⟩ (fun H locs hH => ?_)
      obtain ⟨hg110, h⟩ := chk_some h
      obtain ⟨σ111, e112, h⟩ := st_some h
      refine r_ist X.1 hH (by decide) rfl hg110 dX6_settle_27 (fun H locs hH => ?_)
      replace hH : HW (IA Γ) Γ σ111 s.heap H locs := by rw [e112]; exact hH
      refine lv_iinc (v := x1 + 1) (lv' := [(1, .int (x1 + 1)), (0, .ref (adr Γ 12))]) hx hb dX6_settle_28 hl (k := 1) rfl rfl (by decide) rfl (fun ls hl => ?_)
      refine lv_goto (tgt := 6) hx hb dX6_settle_31 (by decide) ?_
      exact ih σ111 (x1 + 1) h _ _ _ hH (lv_sub hl [1, 0] rfl)
/-- CutoffMill$Rings.settle()V -/
def m_X6_settle (σ : Sg)  : Option Sg := bnd (m_X6_settleLeaning σ) (fun σ103 => m_X6_settle_6  1000 σ103 0)
set_option maxHeartbeats 4000000 in
set_option maxRecDepth 100000 in
theorem c_X6_settle (l : Launch) {Γ : GG} (hJ : IJ Γ) (σ : Sg)  (σf : Sg) (rf : Unit) (h : m_X6_settle σ  = some σf) : CV l yX6_settle (wy yX6_settle cX6_settle 2 none) { frames := 3, cells := 0, slots := 0, locals := 67 } Γ σ [.ref (adr Γ 12)] σf rf := by
  refine met_of (by decide +kernel) hJ (Nat.le_of_ble_eq_true rfl) (fun p e s m below meth c ls X hH hl => ?_)
  have hl : lv_has ls 2 [(0, .ref (adr Γ 12))] := hl
  have hx := X.1.1
  have hb := X.1.2.1
  rw [m_X6_settle] at h
  refine lv_aload_n hx hb dX6_settle_0 rfl (lv_at hl 0 rfl) ?_
  obtain ⟨σ103, hq101, h⟩ := bnd_some h
  refine r_callVV X.1 hl hH (r := ()) (As := []) (rest := []) (c_X6_settleLeaning l X.1.2.2.2.2.2.2.1 σ  _ () hq101) (cw_V X.1 0 mw_227 mw_224 mw_225 mw_226 mw_20 rfl rfl (by decide +kernel) ⟨Nat.le_of_ble_eq_true rfl, Nat.le_of_ble_eq_true rfl⟩) (r_recv X.1 hH (by decide) rfl rfl) rfl rfl (Nat.le_of_ble_eq_true rfl) dX6_settle_1 ⟨Nat.zero_le _, Nat.zero_le _⟩ (fun H locs hH => ?_)
  refine lv_iconst (v := 0) hx hb dX6_settle_4 (by decide) ?_
  refine lv_istore_n (lv' := [(1, .int 0), (0, .ref (adr Γ 12))]) hx hb dX6_settle_5 rfl hl (by decide) rfl (fun ls hl => ?_)
  exact b_X6_settle_6 (rf := ()) X   1000 σ103 0 h _ _ _ hH (lv_sub hl [1, 0] rfl)
/-- CutoffMill.settle()V -/
def m_X10_settle (σ : Sg)  : Option Sg := bnd (m_X4_settle σ) (fun σ103 => bnd (m_X6_settle σ103) (fun σ106 => some σ106))
set_option maxHeartbeats 4000000 in
set_option maxRecDepth 100000 in
theorem c_X10_settle (l : Launch) {Γ : GG} (hJ : IJ Γ) (σ : Sg)  (σf : Sg) (rf : Unit) (h : m_X10_settle σ  = some σf) : CV l yX10_settle (wy yX10_settle cX10_settle 1 none) { frames := 5, cells := 0, slots := 0, locals := 112 } Γ σ [.ref (adr Γ 0)] σf rf := by
  refine met_of (by decide +kernel) hJ (Nat.le_of_ble_eq_true rfl) (fun p e s m below meth c ls X hH hl => ?_)
  have hl : lv_has ls 1 [(0, .ref (adr Γ 0))] := hl
  have hx := X.1.1
  have hb := X.1.2.1
  rw [m_X10_settle] at h
  refine lv_aload_n hx hb dX10_settle_0 rfl (lv_at hl 0 rfl) ?_
  refine r_get X.1 hH (by decide) rfl rfl inlX10 1 (by decide) (v := .ref (adr Γ 4)) rfl mw_17 dX10_settle_1 ?_
  obtain ⟨σ103, hq101, h⟩ := bnd_some h
  refine r_callVV X.1 hl hH (r := ()) (As := []) (rest := []) (c_X4_settle l X.1.2.2.2.2.2.2.1 σ  _ () hq101) (cw_V X.1 0 mw_145 mw_142 mw_143 mw_144 mw_16 rfl rfl (by decide +kernel) ⟨Nat.le_of_ble_eq_true rfl, Nat.le_of_ble_eq_true rfl⟩) (r_recv X.1 hH (by decide) rfl rfl) rfl rfl (Nat.le_of_ble_eq_true rfl) dX10_settle_4 ⟨Nat.zero_le _, Nat.zero_le _⟩ (fun H locs hH => ?_)
  refine lv_aload_n hx hb dX10_settle_7 rfl (lv_at hl 0 rfl) ?_
  refine r_get X.1 hH (by decide) rfl rfl inlX10 2 (by decide) (v := .ref (adr Γ 12)) rfl mw_21 dX10_settle_8 ?_
  obtain ⟨σ106, hq104, h⟩ := bnd_some h
  refine r_callVV X.1 hl hH (r := ()) (As := []) (rest := []) (c_X6_settle l X.1.2.2.2.2.2.2.1 σ103  _ () hq104) (cw_V X.1 0 mw_222 mw_219 mw_220 mw_221 mw_20 rfl rfl (by decide +kernel) ⟨Nat.le_of_ble_eq_true rfl, Nat.le_of_ble_eq_true rfl⟩) (r_recv X.1 hH (by decide) rfl rfl) rfl rfl (Nat.le_of_ble_eq_true rfl) dX10_settle_11 ⟨Nat.zero_le _, Nat.zero_le _⟩ (fun H locs hH => ?_)
  cases h
  exact e_void (v := rf) X hH dX10_settle_14
/-- CutoffMill.module()I -/
def m_X10_module (σ : Sg)  : Option (Sg × Int32) := if (σ.1 29 0 0) < 8 then st (wI σ 29 0 0 ((σ.1 29 0 0) + (1 : Int32))) (fun σ101 => bnd (m_X10_settle σ101) (fun σ105 => some (σ105, (σ105.1 29 0 0) - (1 : Int32)))) else none
set_option maxHeartbeats 4000000 in
set_option maxRecDepth 100000 in
theorem c_X10_module (l : Launch) {Γ : GG} (hJ : IJ Γ) (σ : Sg)  (σf : Sg) (rf : Int32) (h : m_X10_module σ  = some (σf, rf)) : CI l yX10_module (wy yX10_module cX10_module 1 (some .int)) { frames := 6, cells := 0, slots := 0, locals := 132 } Γ σ [.ref (adr Γ 0)] σf rf := by
  refine met_of (by decide +kernel) hJ (Nat.le_of_ble_eq_true rfl) (fun p e s m below meth c ls X hH hl => ?_)
  have hl : lv_has ls 1 [(0, .ref (adr Γ 0))] := hl
  have hx := X.1.1
  have hb := X.1.2.1
  rw [m_X10_module] at h
  refine lv_aload_n hx hb dX10_module_0 rfl (lv_at hl 0 rfl) ?_
  refine r_get X.1 hH (by decide) rfl rfl inlX10 0 (by decide) (v := .ref (adr Γ (kT 0))) rfl mw_13 dX10_module_1 ?_
  refine r_get X.1 hH (kT_lt (by omega)) (dT0 _ (by omega)) rfl inlX8 3 (by decide) (v := .int (σ.1 29 0 0)) rfl mw_137 dX10_module_4 ?_
  refine lv_bipush (v := 8) hx hb dX10_module_7 (by decide) ?_
  refine lv_icmp_lt (tgt := 22) hx hb dX10_module_9 (by decide) (fun hc => ?_) (fun hc => ?_)
  · replace h := if_t h hc
    refine lv_aload_n hx hb dX10_module_22 rfl (lv_at hl 0 rfl) ?_
    refine r_get X.1 hH (by decide) rfl rfl inlX10 0 (by decide) (v := .ref (adr Γ (kT 0))) rfl mw_13 dX10_module_23 ?_
    refine lv_dup hx hb dX10_module_26 rfl ?_
    refine r_get X.1 hH (kT_lt (by omega)) (dT0 _ (by omega)) rfl inlX8 3 (by decide) (v := .int (σ.1 29 0 0)) rfl mw_137 dX10_module_27 ?_
    refine lv_iconst (v := 1) hx hb dX10_module_30 (by decide) ?_
    refine lv_iadd hx hb dX10_module_31 ?_
    obtain ⟨σ101, e102, h⟩ := st_some h
    refine r_putI X.1 hH (co := 29) (kT_lt (by omega)) rfl (dT0 _ (by omega)) rfl inlX8 tyX8 tyX8_ok nmX8 (by decide) (Nat.le_of_ble_eq_true rfl) rfl (by decide +kernel) mw_137 dX10_module_32 (fun H locs hH => ?_)
    replace hH : HW (IA Γ) Γ σ101 s.heap H locs := by rw [e102]; exact hH
    refine lv_aload_n hx hb dX10_module_35 rfl (lv_at hl 0 rfl) ?_
    obtain ⟨σ105, hq103, h⟩ := bnd_some h
    refine r_callVV X.1 hl hH (r := ()) (As := []) (rest := []) (c_X10_settle l X.1.2.2.2.2.2.2.1 σ101  _ () hq103) (cw_V X.1 0 mw_141 mw_138 mw_139 mw_140 mw_2 rfl rfl (by decide +kernel) ⟨Nat.le_of_ble_eq_true rfl, Nat.le_of_ble_eq_true rfl⟩) (r_recv X.1 hH (by decide) rfl rfl) rfl rfl (Nat.le_of_ble_eq_true rfl) dX10_module_36 ⟨Nat.zero_le _, Nat.zero_le _⟩ (fun H locs hH => ?_)
    refine lv_aload_n hx hb dX10_module_39 rfl (lv_at hl 0 rfl) ?_
    refine r_get X.1 hH (by decide) rfl rfl inlX10 0 (by decide) (v := .ref (adr Γ (kT 0))) rfl mw_13 dX10_module_40 ?_
    refine r_get X.1 hH (kT_lt (by omega)) (dT0 _ (by omega)) rfl inlX8 3 (by decide) (v := .int (σ105.1 29 0 0)) rfl mw_137 dX10_module_43 ?_
    refine lv_iconst (v := 1) hx hb dX10_module_46 (by decide) ?_
    refine lv_isub hx hb dX10_module_47 ?_
    cases h
    exact e_int X hH rfl dX10_module_48
  · replace h := if_f h hc
    cases h
/-- CutoffMill.checkModule(I)V -/
def m_X10_checkModule (σ : Sg) (x1 : Int32) : Option Unit := if x1 < 0 then none else if x1 < (σ.1 29 0 0) then some () else none
set_option maxHeartbeats 4000000 in
set_option maxRecDepth 100000 in
theorem c_X10_checkModule (l : Launch) {Γ : GG} (hJ : IJ Γ) (σ : Sg) (x1 : Int32) (rf : Unit) (h : m_X10_checkModule σ x1 = some rf) : CV l yX10_checkModule (wy yX10_checkModule cX10_checkModule 2 none) { frames := 0, cells := 0, slots := 0, locals := 0 } Γ σ [.ref (adr Γ 0), .int x1] σ rf := by
  refine met_of (by decide +kernel) hJ (Nat.le_of_ble_eq_true rfl) (fun p e s m below meth c ls X hH hl => ?_)
  have hl : lv_has ls 2 [(0, .ref (adr Γ 0)), (1, .int x1)] := hl
  have hx := X.1.1
  have hb := X.1.2.1
  rw [m_X10_checkModule] at h
  refine lv_iload_n hx hb dX10_checkModule_0 rfl (lv_at hl 1 rfl) ?_
  refine lv_if_lt (tgt := 15) hx hb dX10_checkModule_1 (by decide) (fun hc => ?_) (fun hc => ?_)
  · replace h := if_t h hc
    cases h
  · replace h := if_f h hc
    refine lv_iload_n hx hb dX10_checkModule_4 rfl (lv_at hl 1 rfl) ?_
    refine lv_aload_n hx hb dX10_checkModule_5 rfl (lv_at hl 0 rfl) ?_
    refine r_get X.1 hH (by decide) rfl rfl inlX10 0 (by decide) (v := .ref (adr Γ (kT 0))) rfl mw_13 dX10_checkModule_6 ?_
    refine r_get X.1 hH (kT_lt (by omega)) (dT0 _ (by omega)) rfl inlX8 3 (by decide) (v := .int (σ.1 29 0 0)) rfl mw_137 dX10_checkModule_9 ?_
    refine lv_icmp_lt (tgt := 26) hx hb dX10_checkModule_12 (by decide) (fun hc => ?_) (fun hc => ?_)
    · replace h := if_t h hc
      cases h
      exact e_void (v := rf) X hH dX10_checkModule_26
    · replace h := if_f h hc
      cases h
/-- CutoffMill.checkWithin(III)V -/
def m_X10_checkWithin (σ : Sg) (x0 : Int32) (x1 : Int32) (x2 : Int32) : Option Unit := if x0 < x1 then none else if x0 ≤ x2 then some () else none
set_option maxHeartbeats 4000000 in
set_option maxRecDepth 100000 in
theorem c_X10_checkWithin (l : Launch) {Γ : GG} (hJ : IJ Γ) (σ : Sg) (x0 : Int32) (x1 : Int32) (x2 : Int32) (rf : Unit) (h : m_X10_checkWithin σ x0 x1 x2 = some rf) : CV l yX10_checkWithin (wy yX10_checkWithin cX10_checkWithin 3 none) { frames := 0, cells := 0, slots := 0, locals := 0 } Γ σ [.int x0, .int x1, .int x2] σ rf := by
  refine met_of (by decide +kernel) hJ (Nat.le_of_ble_eq_true rfl) (fun p e s m below meth c ls X hH hl => ?_)
  have hl : lv_has ls 3 [(0, .int x0), (1, .int x1), (2, .int x2)] := hl
  have hx := X.1.1
  have hb := X.1.2.1
  rw [m_X10_checkWithin] at h
  refine lv_iload_n hx hb dX10_checkWithin_0 rfl (lv_at hl 0 rfl) ?_
  refine lv_iload_n hx hb dX10_checkWithin_1 rfl (lv_at hl 1 rfl) ?_
  refine lv_icmp_lt (tgt := 10) hx hb dX10_checkWithin_2 (by decide) (fun hc => ?_) (fun hc => ?_)
  · replace h := if_t h hc
    cases h
  · replace h := if_f h hc
    refine lv_iload_n hx hb dX10_checkWithin_5 rfl (lv_at hl 0 rfl) ?_
    refine lv_iload_n hx hb dX10_checkWithin_6 rfl (lv_at hl 2 rfl) ?_
    refine lv_icmp_le (tgt := 21) hx hb dX10_checkWithin_7 (by decide) (fun hc => ?_) (fun hc => ?_)
    · replace h := if_t h hc
      cases h
      exact e_void (v := rf) X hH dX10_checkWithin_21
    · replace h := if_f h hc
      cases h
def m_X8_declarationsOf_4 (σ : Sg) (i0 : Nat) (x1 : Int32)  : Nat → Int32 → Int32 → Option Int32
  | 0, _, _ => none
  | n + 1, x2, x3 => if 16 ≤ x3 then some x2 else bnd (m_X8_isDeclared σ i0 ((x1 * (16 : Int32)) + x3)) (fun r102 => if r102 = 0 then m_X8_declarationsOf_4 σ i0 x1 n x2 (x3 + 1) else m_X8_declarationsOf_4 σ i0 x1 n (x2 + 1) (x3 + 1))
set_option maxHeartbeats 4000000 in
set_option maxRecDepth 100000 in
theorem b_X8_declarationsOf_4 {p : Program} {l : Launch} {e : Env} {s : State} {m : MethodId} {args : Array Value} {below : List Frame} {meth : Method} {c : Code} {Γ : GG} (X : MB Γ p s m args meth c cX8_declarationsOf 4 RX8 (some .int)) (σ : Sg) {rf : Int32} (i0 : Nat) (hi0 : i0 < 32) (x1 : Int32) : ∀ (n : Nat), (∀ (x2 : Int32) (x3 : Int32), (m_X8_declarationsOf_4 σ i0 x1 n) x2 x3 = some rf → ∀ (H : Heap) (locs : List Loc) (ls : Array Slot), HW (IA Γ) Γ σ s.heap H locs → lv_has ls 4 [(0, .ref (adr Γ (kT i0))), (1, .int x1), (2, .int x2), (3, .int x3)] → W p l e ({ frames := 1, cells := 0, slots := 0, locals := 21 } : Room) s m args below meth c H locs 0 0 (QI Γ σ rf below args s) (F0 m 4 ls [])) := by
  have hx := X.1.1
  have hb := X.1.2.1
  intro n
  induction n with
  | zero => intro x2 x3 h; rw [m_X8_declarationsOf_4] at h; cases h
  | succ n ih =>
    intro x2 x3 h H locs ls hH hl
    rw [m_X8_declarationsOf_4] at h
    refine lv_iload_n hx hb dX8_declarationsOf_4 rfl (lv_at hl 3 rfl) ?_
    refine lv_bipush (v := 16) hx hb dX8_declarationsOf_5 (by decide) ?_
    refine lv_icmp_ge (tgt := 32) hx hb dX8_declarationsOf_7 (by decide) (fun hc => ?_) (fun hc => ?_)
    · replace h := if_t h hc
      refine lv_iload_n hx hb dX8_declarationsOf_32 rfl (lv_at hl 2 rfl) ?_
      cases h
      exact e_int X hH rfl dX8_declarationsOf_33
    · replace h := if_f h hc
      refine lv_aload_n hx hb dX8_declarationsOf_10 rfl (lv_at hl 0 rfl) ?_
      refine lv_iload_n hx hb dX8_declarationsOf_11 rfl (lv_at hl 1 rfl) ?_
      refine lv_bipush (v := 16) hx hb dX8_declarationsOf_12 (by decide) ?_
      refine lv_imul hx hb dX8_declarationsOf_14 ?_
      refine lv_iload_n hx hb dX8_declarationsOf_15 rfl (lv_at hl 3 rfl) ?_
      refine lv_iadd hx hb dX8_declarationsOf_16 ?_
      obtain ⟨r102, hq101, h⟩ := bnd_some h
      refine r_callVI X.1 hl hH (As := [.int ((x1 * (16 : Int32)) + x3)]) (rest := []) (c_X8_isDeclared l X.1.2.2.2.2.2.2.1 σ i0 (by omega) ((x1 * (16 : Int32)) + x3) _ hq101) (cw_V X.1 1 mw_193 mw_275 mw_191 mw_192 mw_12 rfl rfl (by decide +kernel) ⟨Nat.le_of_ble_eq_true rfl, Nat.le_of_ble_eq_true rfl⟩) (r_recv X.1 hH (kT_lt (by omega)) (dT0 _ (by omega)) rfl) rfl rfl (Nat.le_of_ble_eq_true rfl) dX8_declarationsOf_17 ⟨Nat.zero_le _, Nat.zero_le _⟩ (fun H locs hH => ?_)
      refine lv_if_eq (tgt := 26) hx hb dX8_declarationsOf_20 (by decide) (fun hc => ?_) (fun hc => ?_)
      · replace h := if_t h hc
        refine lv_iinc (v := x3 + 1) (lv' := [(3, .int (x3 + 1)), (0, .ref (adr Γ (kT i0))), (1, .int x1), (2, .int x2)]) hx hb dX8_declarationsOf_26 hl (k := 3) rfl rfl (by decide) rfl (fun ls hl => ?_)
        refine lv_goto (tgt := 4) hx hb dX8_declarationsOf_29 (by decide) ?_
        exact ih  x2 (x3 + 1) h _ _ _ hH (lv_sub hl [1, 2, 3, 0] rfl)
      · replace h := if_f h hc
        refine lv_iinc (v := x2 + 1) (lv' := [(2, .int (x2 + 1)), (0, .ref (adr Γ (kT i0))), (1, .int x1), (3, .int x3)]) hx hb dX8_declarationsOf_23 hl (k := 2) rfl rfl (by decide) rfl (fun ls hl => ?_)
        refine lv_iinc (v := x3 + 1) (lv' := [(3, .int (x3 + 1)), (2, .int (x2 + 1)), (0, .ref (adr Γ (kT i0))), (1, .int x1)]) hx hb dX8_declarationsOf_26 hl (k := 3) rfl rfl (by decide) rfl (fun ls hl => ?_)
        refine lv_goto (tgt := 4) hx hb dX8_declarationsOf_29 (by decide) ?_
        exact ih  (x2 + 1) (x3 + 1) h _ _ _ hH (lv_sub hl [2, 3, 1, 0] rfl)
/-- CutoffMill$Texts.declarationsOf(I)I -/
def m_X8_declarationsOf (σ : Sg) (i0 : Nat) (x1 : Int32) : Option Int32 := m_X8_declarationsOf_4 σ i0 x1 1000 0 0
set_option maxHeartbeats 4000000 in
set_option maxRecDepth 100000 in
theorem c_X8_declarationsOf (l : Launch) {Γ : GG} (hJ : IJ Γ) (σ : Sg) (i0 : Nat) (hi0 : i0 < 32) (x1 : Int32) (rf : Int32) (h : m_X8_declarationsOf σ i0 x1 = some rf) : CI l yX8_declarationsOf (wy yX8_declarationsOf cX8_declarationsOf 4 (some .int)) { frames := 1, cells := 0, slots := 0, locals := 21 } Γ σ [.ref (adr Γ (kT i0)), .int x1] σ rf := by
  refine met_of (by decide +kernel) hJ (Nat.le_of_ble_eq_true rfl) (fun p e s m below meth c ls X hH hl => ?_)
  have hl : lv_has ls 4 [(0, .ref (adr Γ (kT i0))), (1, .int x1)] := hl
  have hx := X.1.1
  have hb := X.1.2.1
  rw [m_X8_declarationsOf] at h
  refine lv_iconst (v := 0) hx hb dX8_declarationsOf_0 (by decide) ?_
  refine lv_istore_n (lv' := [(2, .int 0), (0, .ref (adr Γ (kT i0))), (1, .int x1)]) hx hb dX8_declarationsOf_1 rfl hl (by decide) rfl (fun ls hl => ?_)
  refine lv_iconst (v := 0) hx hb dX8_declarationsOf_2 (by decide) ?_
  refine lv_istore_n (lv' := [(3, .int 0), (2, .int 0), (0, .ref (adr Γ (kT i0))), (1, .int x1)]) hx hb dX8_declarationsOf_3 rfl hl (by decide) rfl (fun ls hl => ?_)
  exact b_X8_declarationsOf_4 X σ i0 hi0 x1  1000  0 0 h _ _ _ hH (lv_sub hl [2, 3, 1, 0] rfl)
def m_X1_of_14 (σ : Sg) (x0 : Int32) (x1 : Int32) (x2 : Int32) (x3 : Int32) (x4 : Int32)  (s0 : Int32) (s1 : Int32) : Option Int32 := some ((((s1 ||| s0) ||| ((x2 + (99 : Int32)) <<< ((3 : Int32) &&& 31))) ||| ((x3 + (1 : Int32)) <<< ((11 : Int32) &&& 31))) ||| ((x4 + (1 : Int32)) <<< ((16 : Int32) &&& 31)))
set_option maxHeartbeats 4000000 in
set_option maxRecDepth 100000 in
theorem b_X1_of_14 {p : Program} {l : Launch} {e : Env} {s : State} {m : MethodId} {args : Array Value} {below : List Frame} {meth : Method} {c : Code} {Γ : GG} (X : MB Γ p s m args meth c cX1_of 5 RX1 (some .int)) (σ : Sg) {rf : Int32} (x0 : Int32) (x1 : Int32) (x2 : Int32) (x3 : Int32) (x4 : Int32) : (∀ (s0 : Int32) (s1 : Int32), (m_X1_of_14 σ x0 x1 x2 x3 x4) s0 s1 = some rf → ∀ (H : Heap) (locs : List Loc) (ls : Array Slot), HW (IA Γ) Γ σ s.heap H locs → lv_has ls 5 [(2, .int x2), (3, .int x3), (4, .int x4)] → W p l e ({ frames := 0, cells := 0, slots := 0, locals := 0 } : Room) s m args below meth c H locs 0 0 (QI Γ σ rf below args s) (F0 m 14 ls [.int s0, .int s1])) := by
  have hx := X.1.1
  have hb := X.1.2.1
  intro s0 s1 h H locs ls hH hl
  rw [m_X1_of_14] at h
  refine lv_ior hx hb dX1_of_14 ?_
  refine lv_iload_n hx hb dX1_of_15 rfl (lv_at hl 0 rfl) ?_
  refine lv_bipush (v := 99) hx hb dX1_of_16 (by decide) ?_
  refine lv_iadd hx hb dX1_of_18 ?_
  refine lv_iconst (v := 3) hx hb dX1_of_19 (by decide) ?_
  refine lv_ishl hx hb dX1_of_20 ?_
  refine lv_ior hx hb dX1_of_21 ?_
  refine lv_iload_n hx hb dX1_of_22 rfl (lv_at hl 1 rfl) ?_
  refine lv_iconst (v := 1) hx hb dX1_of_23 (by decide) ?_
  refine lv_iadd hx hb dX1_of_24 ?_
  refine lv_bipush (v := 11) hx hb dX1_of_25 (by decide) ?_
  refine lv_ishl hx hb dX1_of_27 ?_
  refine lv_ior hx hb dX1_of_28 ?_
  refine lv_iload hx hb dX1_of_29 (lv_at hl 2 rfl) ?_
  refine lv_iconst (v := 1) hx hb dX1_of_31 (by decide) ?_
  refine lv_iadd hx hb dX1_of_32 ?_
  refine lv_bipush (v := 16) hx hb dX1_of_33 (by decide) ?_
  refine lv_ishl hx hb dX1_of_35 ?_
  refine lv_ior hx hb dX1_of_36 ?_
  cases h
  exact e_int X hH rfl dX1_of_37
/-- CutoffMill$Declaration.of(IZIII)I -/
def m_X1_of (σ : Sg) (x0 : Int32) (x1 : Int32) (x2 : Int32) (x3 : Int32) (x4 : Int32) : Option Int32 := if x1 = 0 then m_X1_of_14 σ x0 x1 x2 x3 x4 0 ((1 : Int32) ||| (x0 <<< ((1 : Int32) &&& 31))) else m_X1_of_14 σ x0 x1 x2 x3 x4 4 ((1 : Int32) ||| (x0 <<< ((1 : Int32) &&& 31)))
set_option maxHeartbeats 4000000 in
set_option maxRecDepth 100000 in
theorem c_X1_of (l : Launch) {Γ : GG} (hJ : IJ Γ) (σ : Sg) (x0 : Int32) (x1 : Int32) (x2 : Int32) (x3 : Int32) (x4 : Int32) (rf : Int32) (h : m_X1_of σ x0 x1 x2 x3 x4 = some rf) : CI l yX1_of (wy yX1_of cX1_of 5 (some .int)) { frames := 0, cells := 0, slots := 0, locals := 0 } Γ σ [.int x0, .int x1, .int x2, .int x3, .int x4] σ rf := by
  refine met_of (by decide +kernel) hJ (Nat.le_of_ble_eq_true rfl) (fun p e s m below meth c ls X hH hl => ?_)
  have hl : lv_has ls 5 [(0, .int x0), (1, .int x1), (2, .int x2), (3, .int x3), (4, .int x4)] := hl
  have hx := X.1.1
  have hb := X.1.2.1
  rw [m_X1_of] at h
  refine lv_iconst (v := 1) hx hb dX1_of_0 (by decide) ?_
  refine lv_iload_n hx hb dX1_of_1 rfl (lv_at hl 0 rfl) ?_
  refine lv_iconst (v := 1) hx hb dX1_of_2 (by decide) ?_
  refine lv_ishl hx hb dX1_of_3 ?_
  refine lv_ior hx hb dX1_of_4 ?_
  refine lv_iload_n hx hb dX1_of_5 rfl (lv_at hl 1 rfl) ?_
  refine lv_if_eq (tgt := 13) hx hb dX1_of_6 (by decide) (fun hc => ?_) (fun hc => ?_)
  · replace h := if_t h hc
    refine lv_iconst (v := 0) hx hb dX1_of_13 (by decide) ?_
    exact b_X1_of_14 X σ x0 x1 x2 x3 x4   0 ((1 : Int32) ||| (x0 <<< ((1 : Int32) &&& 31))) h _ _ _ hH (lv_sub hl [2, 3, 4] rfl)
  · replace h := if_f h hc
    refine lv_iconst (v := 4) hx hb dX1_of_9 (by decide) ?_
    refine lv_goto (tgt := 14) hx hb dX1_of_10 (by decide) ?_
    exact b_X1_of_14 X σ x0 x1 x2 x3 x4   4 ((1 : Int32) ||| (x0 <<< ((1 : Int32) &&& 31))) h _ _ _ hH (lv_sub hl [2, 3, 4] rfl)
def m_X10_declare_86 (x1 : Int32) (x2 : Int32) (x3 : Int32) (x4 : Int32) (x5 : Int32) (x6 : Int32) (x7 : Int32)  (σ : Sg) (x8 : Int32) : Option (Sg × Int32) := bnd (m_X1_of σ x3 x4 x5 x6 x7) (fun r123 => chk (inb x8 128) (st (wI σ 26 0 x8.toNatClampNeg r123) (fun σ126 => bnd (m_X10_settle σ126) (fun σ130 => bnd (m_X8_declarationsOf σ130 0 x1) (fun r132 => some (σ130, r132))))))
set_option maxHeartbeats 4000000 in
set_option maxRecDepth 100000 in
theorem b_X10_declare_86 {p : Program} {l : Launch} {e : Env} {s : State} {m : MethodId} {args : Array Value} {below : List Frame} {meth : Method} {c : Code} {Γ : GG} (X : MB Γ p s m args meth c cX10_declare 9 RX10 (some .int)) {σf : Sg} {rf : Int32} (x1 : Int32) (x2 : Int32) (x3 : Int32) (x4 : Int32) (x5 : Int32) (x6 : Int32) (x7 : Int32) : (∀ (σ : Sg) (x8 : Int32), (m_X10_declare_86 x1 x2 x3 x4 x5 x6 x7) σ x8 = some (σf, rf) → ∀ (H : Heap) (locs : List Loc) (ls : Array Slot), HW (IA Γ) Γ σ s.heap H locs → lv_has ls 9 [(0, .ref (adr Γ 0)), (1, .int x1), (3, .int x3), (4, .int x4), (5, .int x5), (6, .int x6), (7, .int x7), (8, .int x8)] → W p l e ({ frames := 6, cells := 0, slots := 0, locals := 132 } : Room) s m args below meth c H locs 0 0 (QI Γ σf rf below args s) (F0 m 86 ls [])) := by
  have hx := X.1.1
  have hb := X.1.2.1
  intro σ x8 h H locs ls hH hl
  rw [m_X10_declare_86] at h
  refine lv_aload_n hx hb dX10_declare_86 rfl (lv_at hl 0 rfl) ?_
  refine r_get X.1 hH (by decide) rfl rfl inlX10 0 (by decide) (v := .ref (adr Γ (kT 0))) rfl mw_13 dX10_declare_87 ?_
  refine r_get X.1 hH (kT_lt (by omega)) (dT0 _ (by omega)) rfl inlX8 0 (by decide) (v := .ref (adr Γ (kT 0 + 1))) rfl mw_335 dX10_declare_90 ?_
  refine lv_iload hx hb dX10_declare_93 (lv_at hl 7 rfl) ?_
  refine lv_iload_n hx hb dX10_declare_95 rfl (lv_at hl 2 rfl) ?_
  refine lv_iload hx hb dX10_declare_96 (lv_at hl 3 rfl) ?_
  refine lv_iload hx hb dX10_declare_98 (lv_at hl 4 rfl) ?_
  refine lv_iload hx hb dX10_declare_100 (lv_at hl 5 rfl) ?_
  refine lv_iload hx hb dX10_declare_102 (lv_at hl 6 rfl) ?_
  obtain ⟨r123, hq122, h⟩ := bnd_some h
  refine r_callSI X.1 hl hH (As := [.int x3, .int x4, .int x5, .int x6, .int x7]) (rest := [.int x8, .ref (adr Γ (kT 0 + 1))]) (c_X1_of l X.1.2.2.2.2.2.2.1 σ x3 x4 x5 x6 x7 _ hq122) (cw_S X.1 5 mw_362 mw_360 mw_361 mw_196 rfl rfl (by decide +kernel) ⟨Nat.le_of_ble_eq_true rfl, Nat.le_of_ble_eq_true rfl⟩) rfl rfl (Nat.le_of_ble_eq_true rfl) dX10_declare_104 ⟨Nat.zero_le _, Nat.zero_le _⟩ (fun H locs hH => ?_)
  obtain ⟨hg125, h⟩ := chk_some h
  obtain ⟨σ126, e127, h⟩ := st_some h
  refine r_ist X.1 hH (lT1 _ (by omega)) (dT1 _ (by omega)) hg125 dX10_declare_107 (fun H locs hH => ?_)
  replace hH : HW (IA Γ) Γ σ126 s.heap H locs := by rw [e127]; exact hH
  refine lv_aload_n hx hb dX10_declare_108 rfl (lv_at hl 0 rfl) ?_
  obtain ⟨σ130, hq128, h⟩ := bnd_some h
  refine r_callVV X.1 hl hH (r := ()) (As := []) (rest := []) (c_X10_settle l X.1.2.2.2.2.2.2.1 σ126  _ () hq128) (cw_V X.1 0 mw_141 mw_138 mw_139 mw_140 mw_2 rfl rfl (by decide +kernel) ⟨Nat.le_of_ble_eq_true rfl, Nat.le_of_ble_eq_true rfl⟩) (r_recv X.1 hH (by decide) rfl rfl) rfl rfl (Nat.le_of_ble_eq_true rfl) dX10_declare_109 ⟨Nat.zero_le _, Nat.zero_le _⟩ (fun H locs hH => ?_)
  refine lv_aload_n hx hb dX10_declare_112 rfl (lv_at hl 0 rfl) ?_
  refine r_get X.1 hH (by decide) rfl rfl inlX10 0 (by decide) (v := .ref (adr Γ (kT 0))) rfl mw_13 dX10_declare_113 ?_
  refine lv_iload_n hx hb dX10_declare_116 rfl (lv_at hl 1 rfl) ?_
  obtain ⟨r132, hq131, h⟩ := bnd_some h
  refine r_callVI X.1 hl hH (As := [.int x1]) (rest := []) (c_X8_declarationsOf l X.1.2.2.2.2.2.2.1 σ130 0 (by omega) x1 _ hq131) (cw_V X.1 1 mw_274 mw_271 mw_272 mw_273 mw_12 rfl rfl (by decide +kernel) ⟨Nat.le_of_ble_eq_true rfl, Nat.le_of_ble_eq_true rfl⟩) (r_recv X.1 hH (kT_lt (by omega)) (dT0 _ (by omega)) rfl) rfl rfl (Nat.le_of_ble_eq_true rfl) dX10_declare_117 ⟨Nat.zero_le _, Nat.zero_le _⟩ (fun H locs hH => ?_)
  cases h
  exact e_int X hH rfl dX10_declare_120
/-- CutoffMill.declare(IIIZIII)I -/
def m_X10_declare (σ : Sg) (x1 : Int32) (x2 : Int32) (x3 : Int32) (x4 : Int32) (x5 : Int32) (x6 : Int32) (x7 : Int32) : Option (Sg × Int32) := bnd (m_X10_checkModule σ x1) (fun _ => bnd (m_X10_checkWithin σ x2 0 15) (fun _ => bnd (m_X10_checkWithin σ x3 0 1) (fun _ => bnd (m_X10_checkWithin σ x5 ((-99)) 99) (fun _ => bnd (m_X10_checkWithin σ x6 ((-1)) 15) (fun _ => bnd (m_X10_checkWithin σ x7 ((-1)) 15) (fun _ => bnd (m_X8_isDeclared σ 0 ((x1 * (16 : Int32)) + x2)) (fun r120 => if r120 = 0 then bnd (m_X8_declarationsOf σ 0 x1) (fun r135 => if r135 < 6 then m_X10_declare_86 x1 x2 x3 x4 x5 x6 x7 σ ((x1 * (16 : Int32)) + x2) else none) else m_X10_declare_86 x1 x2 x3 x4 x5 x6 x7 σ ((x1 * (16 : Int32)) + x2))))))))
set_option maxHeartbeats 4000000 in
set_option maxRecDepth 100000 in
theorem c_X10_declare (l : Launch) {Γ : GG} (hJ : IJ Γ) (σ : Sg) (x1 : Int32) (x2 : Int32) (x3 : Int32) (x4 : Int32) (x5 : Int32) (x6 : Int32) (x7 : Int32) (σf : Sg) (rf : Int32) (h : m_X10_declare σ x1 x2 x3 x4 x5 x6 x7 = some (σf, rf)) : CI l yX10_declare (wy yX10_declare cX10_declare 9 (some .int)) { frames := 6, cells := 0, slots := 0, locals := 132 } Γ σ [.ref (adr Γ 0), .int x1, .int x2, .int x3, .int x4, .int x5, .int x6, .int x7] σf rf := by
  refine met_of (by decide +kernel) hJ (Nat.le_of_ble_eq_true rfl) (fun p e s m below meth c ls X hH hl => ?_)
  have hl : lv_has ls 9 [(0, .ref (adr Γ 0)), (1, .int x1), (2, .int x2), (3, .int x3), (4, .int x4), (5, .int x5), (6, .int x6), (7, .int x7)] := hl
  have hx := X.1.1
  have hb := X.1.2.1
  rw [m_X10_declare] at h
  refine lv_aload_n hx hb dX10_declare_0 rfl (lv_at hl 0 rfl) ?_
  refine lv_iload_n hx hb dX10_declare_1 rfl (lv_at hl 1 rfl) ?_
  obtain ⟨_, hq101, h⟩ := bnd_some h
  refine r_callVV X.1 hl hH (r := ()) (As := [.int x1]) (rest := []) (c_X10_checkModule l X.1.2.2.2.2.2.2.1 σ x1 () hq101) (cw_V X.1 1 mw_263 mw_260 mw_261 mw_262 mw_2 rfl rfl (by decide +kernel) ⟨Nat.le_of_ble_eq_true rfl, Nat.le_of_ble_eq_true rfl⟩) (r_recv X.1 hH (by decide) rfl rfl) rfl rfl (Nat.le_of_ble_eq_true rfl) dX10_declare_2 ⟨Nat.zero_le _, Nat.zero_le _⟩ (fun H locs hH => ?_)
  refine lv_iload_n hx hb dX10_declare_5 rfl (lv_at hl 2 rfl) ?_
  refine lv_iconst (v := 0) hx hb dX10_declare_6 (by decide) ?_
  refine lv_bipush (v := 15) hx hb dX10_declare_7 (by decide) ?_
  obtain ⟨_, hq104, h⟩ := bnd_some h
  refine r_callSV X.1 hl hH (r := ()) (As := [.int x2, .int 0, .int 15]) (rest := []) (c_X10_checkWithin l X.1.2.2.2.2.2.2.1 σ x2 0 15 () hq104) (cw_S X.1 3 mw_268 mw_266 mw_267 mw_2 rfl rfl (by decide +kernel) ⟨Nat.le_of_ble_eq_true rfl, Nat.le_of_ble_eq_true rfl⟩) rfl rfl (Nat.le_of_ble_eq_true rfl) dX10_declare_9 ⟨Nat.zero_le _, Nat.zero_le _⟩ (fun H locs hH => ?_)
  refine lv_iload_n hx hb dX10_declare_12 rfl (lv_at hl 3 rfl) ?_
  refine lv_iconst (v := 0) hx hb dX10_declare_13 (by decide) ?_
  refine lv_iconst (v := 1) hx hb dX10_declare_14 (by decide) ?_
  obtain ⟨_, hq107, h⟩ := bnd_some h
  refine r_callSV X.1 hl hH (r := ()) (As := [.int x3, .int 0, .int 1]) (rest := []) (c_X10_checkWithin l X.1.2.2.2.2.2.2.1 σ x3 0 1 () hq107) (cw_S X.1 3 mw_268 mw_266 mw_267 mw_2 rfl rfl (by decide +kernel) ⟨Nat.le_of_ble_eq_true rfl, Nat.le_of_ble_eq_true rfl⟩) rfl rfl (Nat.le_of_ble_eq_true rfl) dX10_declare_15 ⟨Nat.zero_le _, Nat.zero_le _⟩ (fun H locs hH => ?_)
  refine lv_iload hx hb dX10_declare_18 (lv_at hl 5 rfl) ?_
  refine lv_bipush (v := (-99)) hx hb dX10_declare_20 (by decide) ?_
  refine lv_bipush (v := 99) hx hb dX10_declare_22 (by decide) ?_
  obtain ⟨_, hq110, h⟩ := bnd_some h
  refine r_callSV X.1 hl hH (r := ()) (As := [.int x5, .int ((-99)), .int 99]) (rest := []) (c_X10_checkWithin l X.1.2.2.2.2.2.2.1 σ x5 ((-99)) 99 () hq110) (cw_S X.1 3 mw_268 mw_266 mw_267 mw_2 rfl rfl (by decide +kernel) ⟨Nat.le_of_ble_eq_true rfl, Nat.le_of_ble_eq_true rfl⟩) rfl rfl (Nat.le_of_ble_eq_true rfl) dX10_declare_24 ⟨Nat.zero_le _, Nat.zero_le _⟩ (fun H locs hH => ?_)
  refine lv_iload hx hb dX10_declare_27 (lv_at hl 6 rfl) ?_
  refine lv_iconst (v := (-1)) hx hb dX10_declare_29 (by decide) ?_
  refine lv_bipush (v := 15) hx hb dX10_declare_30 (by decide) ?_
  obtain ⟨_, hq113, h⟩ := bnd_some h
  refine r_callSV X.1 hl hH (r := ()) (As := [.int x6, .int ((-1)), .int 15]) (rest := []) (c_X10_checkWithin l X.1.2.2.2.2.2.2.1 σ x6 ((-1)) 15 () hq113) (cw_S X.1 3 mw_268 mw_266 mw_267 mw_2 rfl rfl (by decide +kernel) ⟨Nat.le_of_ble_eq_true rfl, Nat.le_of_ble_eq_true rfl⟩) rfl rfl (Nat.le_of_ble_eq_true rfl) dX10_declare_32 ⟨Nat.zero_le _, Nat.zero_le _⟩ (fun H locs hH => ?_)
  refine lv_iload hx hb dX10_declare_35 (lv_at hl 7 rfl) ?_
  refine lv_iconst (v := (-1)) hx hb dX10_declare_37 (by decide) ?_
  refine lv_bipush (v := 15) hx hb dX10_declare_38 (by decide) ?_
  obtain ⟨_, hq116, h⟩ := bnd_some h
  refine r_callSV X.1 hl hH (r := ()) (As := [.int x7, .int ((-1)), .int 15]) (rest := []) (c_X10_checkWithin l X.1.2.2.2.2.2.2.1 σ x7 ((-1)) 15 () hq116) (cw_S X.1 3 mw_268 mw_266 mw_267 mw_2 rfl rfl (by decide +kernel) ⟨Nat.le_of_ble_eq_true rfl, Nat.le_of_ble_eq_true rfl⟩) rfl rfl (Nat.le_of_ble_eq_true rfl) dX10_declare_40 ⟨Nat.zero_le _, Nat.zero_le _⟩ (fun H locs hH => ?_)
  refine lv_iload_n hx hb dX10_declare_43 rfl (lv_at hl 1 rfl) ?_
  refine lv_bipush (v := 16) hx hb dX10_declare_44 (by decide) ?_
  refine lv_imul hx hb dX10_declare_46 ?_
  refine lv_iload_n hx hb dX10_declare_47 rfl (lv_at hl 2 rfl) ?_
  refine lv_iadd hx hb dX10_declare_48 ?_
  refine lv_istore (lv' := [(8, .int ((x1 * (16 : Int32)) + x2)), (0, .ref (adr Γ 0)), (1, .int x1), (2, .int x2), (3, .int x3), (4, .int x4), (5, .int x5), (6, .int x6), (7, .int x7)]) hx hb dX10_declare_49 hl (by decide) rfl (fun ls hl => ?_)
  refine lv_aload_n hx hb dX10_declare_51 rfl (lv_at hl 1 rfl) ?_
  refine r_get X.1 hH (by decide) rfl rfl inlX10 0 (by decide) (v := .ref (adr Γ (kT 0))) rfl mw_13 dX10_declare_52 ?_
  refine lv_iload hx hb dX10_declare_55 (lv_at hl 0 rfl) ?_
  obtain ⟨r120, hq119, h⟩ := bnd_some h
  refine r_callVI X.1 hl hH (As := [.int ((x1 * (16 : Int32)) + x2)]) (rest := []) (c_X8_isDeclared l X.1.2.2.2.2.2.2.1 σ 0 (by omega) ((x1 * (16 : Int32)) + x2) _ hq119) (cw_V X.1 1 mw_193 mw_336 mw_191 mw_192 mw_12 rfl rfl (by decide +kernel) ⟨Nat.le_of_ble_eq_true rfl, Nat.le_of_ble_eq_true rfl⟩) (r_recv X.1 hH (kT_lt (by omega)) (dT0 _ (by omega)) rfl) rfl rfl (Nat.le_of_ble_eq_true rfl) dX10_declare_57 ⟨Nat.zero_le _, Nat.zero_le _⟩ (fun H locs hH => ?_)
  refine lv_if_ne (tgt := 86) hx hb dX10_declare_60 (by decide) (fun hc => ?_) (fun hc => ?_)
  · replace h := if_f h hc
    exact b_X10_declare_86 X x1 x2 x3 x4 x5 x6 x7  σ ((x1 * (16 : Int32)) + x2) h _ _ _ hH (lv_sub hl [1, 2, 4, 5, 6, 7, 8, 0] rfl)
  · replace h := if_t h hc
    refine lv_aload_n hx hb dX10_declare_63 rfl (lv_at hl 1 rfl) ?_
    refine r_get X.1 hH (by decide) rfl rfl inlX10 0 (by decide) (v := .ref (adr Γ (kT 0))) rfl mw_13 dX10_declare_64 ?_
    refine lv_iload_n hx hb dX10_declare_67 rfl (lv_at hl 2 rfl) ?_
    obtain ⟨r135, hq134, h⟩ := bnd_some h
    refine r_callVI X.1 hl hH (As := [.int x1]) (rest := []) (c_X8_declarationsOf l X.1.2.2.2.2.2.2.1 σ 0 (by omega) x1 _ hq134) (cw_V X.1 1 mw_274 mw_271 mw_272 mw_273 mw_12 rfl rfl (by decide +kernel) ⟨Nat.le_of_ble_eq_true rfl, Nat.le_of_ble_eq_true rfl⟩) (r_recv X.1 hH (kT_lt (by omega)) (dT0 _ (by omega)) rfl) rfl rfl (Nat.le_of_ble_eq_true rfl) dX10_declare_68 ⟨Nat.zero_le _, Nat.zero_le _⟩ (fun H locs hH => ?_)
    refine lv_bipush (v := 6) hx hb dX10_declare_71 (by decide) ?_
    refine lv_icmp_lt (tgt := 86) hx hb dX10_declare_73 (by decide) (fun hc => ?_) (fun hc => ?_)
    · replace h := if_t h hc
      exact b_X10_declare_86 X x1 x2 x3 x4 x5 x6 x7  σ ((x1 * (16 : Int32)) + x2) h _ _ _ hH (lv_sub hl [1, 2, 4, 5, 6, 7, 8, 0] rfl)
    · replace h := if_f h hc
      cases h
/-- CutoffMill.drop(II)Z -/
def m_X10_drop (σ : Sg) (x1 : Int32) (x2 : Int32) : Option (Sg × Int32) := bnd (m_X10_checkModule σ x1) (fun _ => bnd (m_X10_checkWithin σ x2 0 15) (fun _ => bnd (m_X8_isDeclared σ 0 ((x1 * (16 : Int32)) + x2)) (fun r108 => chk (inb ((x1 * (16 : Int32)) + x2) 128) (st (wI σ 26 0 ((x1 * (16 : Int32)) + x2).toNatClampNeg 0) (fun σ111 => bnd (m_X10_settle σ111) (fun σ115 => chk (zb r108) (some (σ115, r108))))))))
set_option maxHeartbeats 4000000 in
set_option maxRecDepth 100000 in
theorem c_X10_drop (l : Launch) {Γ : GG} (hJ : IJ Γ) (σ : Sg) (x1 : Int32) (x2 : Int32) (σf : Sg) (rf : Int32) (h : m_X10_drop σ x1 x2 = some (σf, rf)) : CI l yX10_drop (wy yX10_drop cX10_drop 5 (some .boolean)) { frames := 6, cells := 0, slots := 0, locals := 132 } Γ σ [.ref (adr Γ 0), .int x1, .int x2] σf rf := by
  refine met_of (by decide +kernel) hJ (Nat.le_of_ble_eq_true rfl) (fun p e s m below meth c ls X hH hl => ?_)
  have hl : lv_has ls 5 [(0, .ref (adr Γ 0)), (1, .int x1), (2, .int x2)] := hl
  have hx := X.1.1
  have hb := X.1.2.1
  rw [m_X10_drop] at h
  refine lv_aload_n hx hb dX10_drop_0 rfl (lv_at hl 0 rfl) ?_
  refine lv_iload_n hx hb dX10_drop_1 rfl (lv_at hl 1 rfl) ?_
  obtain ⟨_, hq101, h⟩ := bnd_some h
  refine r_callVV X.1 hl hH (r := ()) (As := [.int x1]) (rest := []) (c_X10_checkModule l X.1.2.2.2.2.2.2.1 σ x1 () hq101) (cw_V X.1 1 mw_263 mw_260 mw_261 mw_262 mw_2 rfl rfl (by decide +kernel) ⟨Nat.le_of_ble_eq_true rfl, Nat.le_of_ble_eq_true rfl⟩) (r_recv X.1 hH (by decide) rfl rfl) rfl rfl (Nat.le_of_ble_eq_true rfl) dX10_drop_2 ⟨Nat.zero_le _, Nat.zero_le _⟩ (fun H locs hH => ?_)
  refine lv_iload_n hx hb dX10_drop_5 rfl (lv_at hl 2 rfl) ?_
  refine lv_iconst (v := 0) hx hb dX10_drop_6 (by decide) ?_
  refine lv_bipush (v := 15) hx hb dX10_drop_7 (by decide) ?_
  obtain ⟨_, hq104, h⟩ := bnd_some h
  refine r_callSV X.1 hl hH (r := ()) (As := [.int x2, .int 0, .int 15]) (rest := []) (c_X10_checkWithin l X.1.2.2.2.2.2.2.1 σ x2 0 15 () hq104) (cw_S X.1 3 mw_268 mw_266 mw_267 mw_2 rfl rfl (by decide +kernel) ⟨Nat.le_of_ble_eq_true rfl, Nat.le_of_ble_eq_true rfl⟩) rfl rfl (Nat.le_of_ble_eq_true rfl) dX10_drop_9 ⟨Nat.zero_le _, Nat.zero_le _⟩ (fun H locs hH => ?_)
  refine lv_iload_n hx hb dX10_drop_12 rfl (lv_at hl 1 rfl) ?_
  refine lv_bipush (v := 16) hx hb dX10_drop_13 (by decide) ?_
  refine lv_imul hx hb dX10_drop_15 ?_
  refine lv_iload_n hx hb dX10_drop_16 rfl (lv_at hl 2 rfl) ?_
  refine lv_iadd hx hb dX10_drop_17 ?_
  refine lv_istore_n (lv' := [(3, .int ((x1 * (16 : Int32)) + x2)), (0, .ref (adr Γ 0)), (1, .int x1), (2, .int x2)]) hx hb dX10_drop_18 rfl hl (by decide) rfl (fun ls hl => ?_)
  refine lv_aload_n hx hb dX10_drop_19 rfl (lv_at hl 1 rfl) ?_
  refine r_get X.1 hH (by decide) rfl rfl inlX10 0 (by decide) (v := .ref (adr Γ (kT 0))) rfl mw_13 dX10_drop_20 ?_
  refine lv_iload_n hx hb dX10_drop_23 rfl (lv_at hl 0 rfl) ?_
  obtain ⟨r108, hq107, h⟩ := bnd_some h
  refine r_callVI X.1 hl hH (As := [.int ((x1 * (16 : Int32)) + x2)]) (rest := []) (c_X8_isDeclared l X.1.2.2.2.2.2.2.1 σ 0 (by omega) ((x1 * (16 : Int32)) + x2) _ hq107) (cw_V X.1 1 mw_193 mw_336 mw_191 mw_192 mw_12 rfl rfl (by decide +kernel) ⟨Nat.le_of_ble_eq_true rfl, Nat.le_of_ble_eq_true rfl⟩) (r_recv X.1 hH (kT_lt (by omega)) (dT0 _ (by omega)) rfl) rfl rfl (Nat.le_of_ble_eq_true rfl) dX10_drop_24 ⟨Nat.zero_le _, Nat.zero_le _⟩ (fun H locs hH => ?_)
  refine lv_istore (lv' := [(4, .int r108), (3, .int ((x1 * (16 : Int32)) + x2)), (0, .ref (adr Γ 0)), (1, .int x1), (2, .int x2)]) hx hb dX10_drop_27 hl (by decide) rfl (fun ls hl => ?_)
  refine lv_aload_n hx hb dX10_drop_29 rfl (lv_at hl 2 rfl) ?_
  refine r_get X.1 hH (by decide) rfl rfl inlX10 0 (by decide) (v := .ref (adr Γ (kT 0))) rfl mw_13 dX10_drop_30 ?_
  refine r_get X.1 hH (kT_lt (by omega)) (dT0 _ (by omega)) rfl inlX8 0 (by decide) (v := .ref (adr Γ (kT 0 + 1))) rfl mw_335 dX10_drop_33 ?_
  refine lv_iload_n hx hb dX10_drop_36 rfl (lv_at hl 1 rfl) ?_
  refine lv_iconst (v := 0) hx hb dX10_drop_37 (by decide) ?_
  obtain ⟨hg110, h⟩ := chk_some h
  obtain ⟨σ111, e112, h⟩ := st_some h
  refine r_ist X.1 hH (lT1 _ (by omega)) (dT1 _ (by omega)) hg110 dX10_drop_38 (fun H locs hH => ?_)
  replace hH : HW (IA Γ) Γ σ111 s.heap H locs := by rw [e112]; exact hH
  refine lv_aload_n hx hb dX10_drop_39 rfl (lv_at hl 2 rfl) ?_
  obtain ⟨σ115, hq113, h⟩ := bnd_some h
  refine r_callVV X.1 hl hH (r := ()) (As := []) (rest := []) (c_X10_settle l X.1.2.2.2.2.2.2.1 σ111  _ () hq113) (cw_V X.1 0 mw_141 mw_138 mw_139 mw_140 mw_2 rfl rfl (by decide +kernel) ⟨Nat.le_of_ble_eq_true rfl, Nat.le_of_ble_eq_true rfl⟩) (r_recv X.1 hH (by decide) rfl rfl) rfl rfl (Nat.le_of_ble_eq_true rfl) dX10_drop_40 ⟨Nat.zero_le _, Nat.zero_le _⟩ (fun H locs hH => ?_)
  refine lv_iload hx hb dX10_drop_43 (lv_at hl 0 rfl) ?_
  obtain ⟨hg116, h⟩ := chk_some h
  cases h
  exact e_int X hH (zb_nar hg116) dX10_drop_45
/-- CutoffMill$Import.of(IIIZ)I -/
def m_X2_of (σ : Sg) (x0 : Int32) (x1 : Int32) (x2 : Int32) (x3 : Int32) : Option Int32 := if x3 = 0 then some (((x0 ||| ((x1 + (1 : Int32)) <<< ((3 : Int32) &&& 31))) ||| (x2 <<< ((8 : Int32) &&& 31))) ||| (0 : Int32)) else some (((x0 ||| ((x1 + (1 : Int32)) <<< ((3 : Int32) &&& 31))) ||| (x2 <<< ((8 : Int32) &&& 31))) ||| (4096 : Int32))
set_option maxHeartbeats 4000000 in
set_option maxRecDepth 100000 in
theorem c_X2_of (l : Launch) {Γ : GG} (hJ : IJ Γ) (σ : Sg) (x0 : Int32) (x1 : Int32) (x2 : Int32) (x3 : Int32) (rf : Int32) (h : m_X2_of σ x0 x1 x2 x3 = some rf) : CI l yX2_of (wy yX2_of cX2_of 4 (some .int)) { frames := 0, cells := 0, slots := 0, locals := 0 } Γ σ [.int x0, .int x1, .int x2, .int x3] σ rf := by
  refine met_of (by decide +kernel) hJ (Nat.le_of_ble_eq_true rfl) (fun p e s m below meth c ls X hH hl => ?_)
  have hl : lv_has ls 4 [(0, .int x0), (1, .int x1), (2, .int x2), (3, .int x3)] := hl
  have hx := X.1.1
  have hb := X.1.2.1
  rw [m_X2_of] at h
  refine lv_iload_n hx hb dX2_of_0 rfl (lv_at hl 0 rfl) ?_
  refine lv_iload_n hx hb dX2_of_1 rfl (lv_at hl 1 rfl) ?_
  refine lv_iconst (v := 1) hx hb dX2_of_2 (by decide) ?_
  refine lv_iadd hx hb dX2_of_3 ?_
  refine lv_iconst (v := 3) hx hb dX2_of_4 (by decide) ?_
  refine lv_ishl hx hb dX2_of_5 ?_
  refine lv_ior hx hb dX2_of_6 ?_
  refine lv_iload_n hx hb dX2_of_7 rfl (lv_at hl 2 rfl) ?_
  refine lv_bipush (v := 8) hx hb dX2_of_8 (by decide) ?_
  refine lv_ishl hx hb dX2_of_10 ?_
  refine lv_ior hx hb dX2_of_11 ?_
  refine lv_iload_n hx hb dX2_of_12 rfl (lv_at hl 3 rfl) ?_
  refine lv_if_eq (tgt := 22) hx hb dX2_of_13 (by decide) (fun hc => ?_) (fun hc => ?_)
  · replace h := if_t h hc
    refine lv_iconst (v := 0) hx hb dX2_of_22 (by decide) ?_
    refine lv_ior hx hb dX2_of_23 ?_
    cases h
    exact e_int X hH rfl dX2_of_24
  · replace h := if_f h hc
    refine lv_sipush (v := 4096) hx hb dX2_of_16 (by decide) ?_
    refine lv_goto (tgt := 23) hx hb dX2_of_19 (by decide) ?_
    refine lv_ior hx hb dX2_of_23 ?_
    cases h
    exact e_int X hH rfl dX2_of_24
/-- CutoffMill$Texts.addImport(II)V -/
def m_X8_addImport (σ : Sg) (i0 : Nat) (x1 : Int32) (x2 : Int32) : Option Sg := chk (inb x1 8) (chk (inb ((x1 * (5 : Int32)) + (σ.1 28 i0 x1.toNatClampNeg)) 40) (st (wI σ 27 i0 ((x1 * (5 : Int32)) + (σ.1 28 i0 x1.toNatClampNeg)).toNatClampNeg x2) (fun σ103 => chk (inb x1 8) (chk (inb x1 8) (st (wI σ103 28 i0 x1.toNatClampNeg ((σ103.1 28 i0 x1.toNatClampNeg) + (1 : Int32))) (fun σ107 => some σ107))))))
set_option maxHeartbeats 4000000 in
set_option maxRecDepth 100000 in
theorem c_X8_addImport (l : Launch) {Γ : GG} (hJ : IJ Γ) (σ : Sg) (i0 : Nat) (hi0 : i0 < 32) (x1 : Int32) (x2 : Int32) (σf : Sg) (rf : Unit) (h : m_X8_addImport σ i0 x1 x2 = some σf) : CV l yX8_addImport (wy yX8_addImport cX8_addImport 3 none) { frames := 0, cells := 0, slots := 0, locals := 0 } Γ σ [.ref (adr Γ (kT i0)), .int x1, .int x2] σf rf := by
  refine met_of (by decide +kernel) hJ (Nat.le_of_ble_eq_true rfl) (fun p e s m below meth c ls X hH hl => ?_)
  have hl : lv_has ls 3 [(0, .ref (adr Γ (kT i0))), (1, .int x1), (2, .int x2)] := hl
  have hx := X.1.1
  have hb := X.1.2.1
  rw [m_X8_addImport] at h
  refine lv_aload_n hx hb dX8_addImport_0 rfl (lv_at hl 0 rfl) ?_
  refine r_get X.1 hH (kT_lt (by omega)) (dT0 _ (by omega)) rfl inlX8 1 (by decide) (v := .ref (adr Γ (kT i0 + 2))) rfl mw_34 dX8_addImport_1 ?_
  refine lv_iload_n hx hb dX8_addImport_4 rfl (lv_at hl 1 rfl) ?_
  refine lv_iconst (v := 5) hx hb dX8_addImport_5 (by decide) ?_
  refine lv_imul hx hb dX8_addImport_6 ?_
  refine lv_aload_n hx hb dX8_addImport_7 rfl (lv_at hl 0 rfl) ?_
  refine r_get X.1 hH (kT_lt (by omega)) (dT0 _ (by omega)) rfl inlX8 2 (by decide) (v := .ref (adr Γ (kT i0 + 3))) rfl mw_35 dX8_addImport_8 ?_
  refine lv_iload_n hx hb dX8_addImport_11 rfl (lv_at hl 1 rfl) ?_
  obtain ⟨hg101, h⟩ := chk_some h
  refine r_ild X.1 hH (lT3 _ (by omega)) (dT3 _ (by omega)) hg101 dX8_addImport_12 ?_
  refine lv_iadd hx hb dX8_addImport_13 ?_
  refine lv_iload_n hx hb dX8_addImport_14 rfl (lv_at hl 2 rfl) ?_
  obtain ⟨hg102, h⟩ := chk_some h
  obtain ⟨σ103, e104, h⟩ := st_some h
  refine r_ist X.1 hH (lT2 _ (by omega)) (dT2 _ (by omega)) hg102 dX8_addImport_15 (fun H locs hH => ?_)
  replace hH : HW (IA Γ) Γ σ103 s.heap H locs := by rw [e104]; exact hH
  refine lv_aload_n hx hb dX8_addImport_16 rfl (lv_at hl 0 rfl) ?_
  refine r_get X.1 hH (kT_lt (by omega)) (dT0 _ (by omega)) rfl inlX8 2 (by decide) (v := .ref (adr Γ (kT i0 + 3))) rfl mw_35 dX8_addImport_17 ?_
  refine lv_iload_n hx hb dX8_addImport_20 rfl (lv_at hl 1 rfl) ?_
  refine lv_dup2_11 hx hb dX8_addImport_21 rfl rfl ?_
  obtain ⟨hg105, h⟩ := chk_some h
  refine r_ild X.1 hH (lT3 _ (by omega)) (dT3 _ (by omega)) hg105 dX8_addImport_22 ?_
  refine lv_iconst (v := 1) hx hb dX8_addImport_23 (by decide) ?_
  refine lv_iadd hx hb dX8_addImport_24 ?_
  obtain ⟨hg106, h⟩ := chk_some h
  obtain ⟨σ107, e108, h⟩ := st_some h
  refine r_ist X.1 hH (lT3 _ (by omega)) (dT3 _ (by omega)) hg106 dX8_addImport_25 (fun H locs hH => ?_)
  replace hH : HW (IA Γ) Γ σ107 s.heap H locs := by rw [e108]; exact hH
  cases h
  exact e_void (v := rf) X hH dX8_addImport_26
def m_X10_bring_62 (x1 : Int32) (x2 : Int32) (x3 : Int32) (x4 : Int32) (x5 : Int32)  (σ : Sg) : Option (Sg × Int32) := chk (inb x1 8) (if (σ.1 28 0 x1.toNatClampNeg) < 5 then bnd (m_X2_of σ x2 x3 x4 x5) (fun r115 => bnd (m_X8_addImport σ 0 x1 r115) (fun σ119 => bnd (m_X10_settle σ119) (fun σ122 => chk (inb x1 8) (some (σ122, (σ122.1 28 0 x1.toNatClampNeg) - (1 : Int32)))))) else none)
set_option maxHeartbeats 4000000 in
set_option maxRecDepth 100000 in
theorem b_X10_bring_62 {p : Program} {l : Launch} {e : Env} {s : State} {m : MethodId} {args : Array Value} {below : List Frame} {meth : Method} {c : Code} {Γ : GG} (X : MB Γ p s m args meth c cX10_bring 6 RX10 (some .int)) {σf : Sg} {rf : Int32} (x1 : Int32) (x2 : Int32) (x3 : Int32) (x4 : Int32) (x5 : Int32) : (∀ (σ : Sg), (m_X10_bring_62 x1 x2 x3 x4 x5) σ = some (σf, rf) → ∀ (H : Heap) (locs : List Loc) (ls : Array Slot), HW (IA Γ) Γ σ s.heap H locs → lv_has ls 6 [(0, .ref (adr Γ 0)), (1, .int x1), (2, .int x2), (3, .int x3), (4, .int x4), (5, .int x5)] → W p l e ({ frames := 6, cells := 0, slots := 0, locals := 132 } : Room) s m args below meth c H locs 0 0 (QI Γ σf rf below args s) (F0 m 62 ls [])) := by
  have hx := X.1.1
  have hb := X.1.2.1
  intro σ h H locs ls hH hl
  rw [m_X10_bring_62] at h
  refine lv_aload_n hx hb dX10_bring_62 rfl (lv_at hl 0 rfl) ?_
  refine r_get X.1 hH (by decide) rfl rfl inlX10 0 (by decide) (v := .ref (adr Γ (kT 0))) rfl mw_13 dX10_bring_63 ?_
  refine r_get X.1 hH (kT_lt (by omega)) (dT0 _ (by omega)) rfl inlX8 2 (by decide) (v := .ref (adr Γ (kT 0 + 3))) rfl mw_257 dX10_bring_66 ?_
  refine lv_iload_n hx hb dX10_bring_69 rfl (lv_at hl 1 rfl) ?_
  obtain ⟨hg113, h⟩ := chk_some h
  refine r_ild X.1 hH (lT3 _ (by omega)) (dT3 _ (by omega)) hg113 dX10_bring_70 ?_
  refine lv_iconst (v := 5) hx hb dX10_bring_71 (by decide) ?_
  refine lv_icmp_lt (tgt := 85) hx hb dX10_bring_72 (by decide) (fun hc => ?_) (fun hc => ?_)
  · replace h := if_t h hc
    refine lv_aload_n hx hb dX10_bring_85 rfl (lv_at hl 0 rfl) ?_
    refine r_get X.1 hH (by decide) rfl rfl inlX10 0 (by decide) (v := .ref (adr Γ (kT 0))) rfl mw_13 dX10_bring_86 ?_
    refine lv_iload_n hx hb dX10_bring_89 rfl (lv_at hl 1 rfl) ?_
    refine lv_iload_n hx hb dX10_bring_90 rfl (lv_at hl 2 rfl) ?_
    refine lv_iload_n hx hb dX10_bring_91 rfl (lv_at hl 3 rfl) ?_
    refine lv_iload hx hb dX10_bring_92 (lv_at hl 4 rfl) ?_
    refine lv_iload hx hb dX10_bring_94 (lv_at hl 5 rfl) ?_
    obtain ⟨r115, hq114, h⟩ := bnd_some h
    refine r_callSI X.1 hl hH (As := [.int x2, .int x3, .int x4, .int x5]) (rest := [.int x1, .ref (adr Γ (kT 0))]) (c_X2_of l X.1.2.2.2.2.2.2.1 σ x2 x3 x4 x5 _ hq114) (cw_S X.1 4 mw_351 mw_349 mw_350 mw_166 rfl rfl (by decide +kernel) ⟨Nat.le_of_ble_eq_true rfl, Nat.le_of_ble_eq_true rfl⟩) rfl rfl (Nat.le_of_ble_eq_true rfl) dX10_bring_96 ⟨Nat.zero_le _, Nat.zero_le _⟩ (fun H locs hH => ?_)
    obtain ⟨σ119, hq117, h⟩ := bnd_some h
    refine r_callVV X.1 hl hH (r := ()) (As := [.int x1, .int r115]) (rest := []) (c_X8_addImport l X.1.2.2.2.2.2.2.1 σ 0 (by omega) x1 r115 _ () hq117) (cw_V X.1 2 mw_355 mw_352 mw_353 mw_354 mw_12 rfl rfl (by decide +kernel) ⟨Nat.le_of_ble_eq_true rfl, Nat.le_of_ble_eq_true rfl⟩) (r_recv X.1 hH (kT_lt (by omega)) (dT0 _ (by omega)) rfl) rfl rfl (Nat.le_of_ble_eq_true rfl) dX10_bring_99 ⟨Nat.zero_le _, Nat.zero_le _⟩ (fun H locs hH => ?_)
    refine lv_aload_n hx hb dX10_bring_102 rfl (lv_at hl 0 rfl) ?_
    obtain ⟨σ122, hq120, h⟩ := bnd_some h
    refine r_callVV X.1 hl hH (r := ()) (As := []) (rest := []) (c_X10_settle l X.1.2.2.2.2.2.2.1 σ119  _ () hq120) (cw_V X.1 0 mw_141 mw_138 mw_139 mw_140 mw_2 rfl rfl (by decide +kernel) ⟨Nat.le_of_ble_eq_true rfl, Nat.le_of_ble_eq_true rfl⟩) (r_recv X.1 hH (by decide) rfl rfl) rfl rfl (Nat.le_of_ble_eq_true rfl) dX10_bring_103 ⟨Nat.zero_le _, Nat.zero_le _⟩ (fun H locs hH => ?_)
    refine lv_aload_n hx hb dX10_bring_106 rfl (lv_at hl 0 rfl) ?_
    refine r_get X.1 hH (by decide) rfl rfl inlX10 0 (by decide) (v := .ref (adr Γ (kT 0))) rfl mw_13 dX10_bring_107 ?_
    refine r_get X.1 hH (kT_lt (by omega)) (dT0 _ (by omega)) rfl inlX8 2 (by decide) (v := .ref (adr Γ (kT 0 + 3))) rfl mw_257 dX10_bring_110 ?_
    refine lv_iload_n hx hb dX10_bring_113 rfl (lv_at hl 1 rfl) ?_
    obtain ⟨hg123, h⟩ := chk_some h
    refine r_ild X.1 hH (lT3 _ (by omega)) (dT3 _ (by omega)) hg123 dX10_bring_114 ?_
    refine lv_iconst (v := 1) hx hb dX10_bring_115 (by decide) ?_
    refine lv_isub hx hb dX10_bring_116 ?_
    cases h
    exact e_int X hH rfl dX10_bring_117
  · replace h := if_f h hc
    cases h
/-- CutoffMill.bring(IIIIZ)I -/
def m_X10_bring (σ : Sg) (x1 : Int32) (x2 : Int32) (x3 : Int32) (x4 : Int32) (x5 : Int32) : Option (Sg × Int32) := bnd (m_X10_checkModule σ x1) (fun _ => bnd (m_X10_checkWithin σ x2 0 7) (fun _ => bnd (m_X10_checkWithin σ x3 ((-1)) 15) (fun _ => bnd (m_X10_checkWithin σ x4 0 15) (fun _ => if x2 = x1 then none else if x3 = ((-1)) then if x4 = 0 then m_X10_bring_62 x1 x2 x3 x4 x5 σ else none else m_X10_bring_62 x1 x2 x3 x4 x5 σ))))
set_option maxHeartbeats 4000000 in
set_option maxRecDepth 100000 in
theorem c_X10_bring (l : Launch) {Γ : GG} (hJ : IJ Γ) (σ : Sg) (x1 : Int32) (x2 : Int32) (x3 : Int32) (x4 : Int32) (x5 : Int32) (σf : Sg) (rf : Int32) (h : m_X10_bring σ x1 x2 x3 x4 x5 = some (σf, rf)) : CI l yX10_bring (wy yX10_bring cX10_bring 6 (some .int)) { frames := 6, cells := 0, slots := 0, locals := 132 } Γ σ [.ref (adr Γ 0), .int x1, .int x2, .int x3, .int x4, .int x5] σf rf := by
  refine met_of (by decide +kernel) hJ (Nat.le_of_ble_eq_true rfl) (fun p e s m below meth c ls X hH hl => ?_)
  have hl : lv_has ls 6 [(0, .ref (adr Γ 0)), (1, .int x1), (2, .int x2), (3, .int x3), (4, .int x4), (5, .int x5)] := hl
  have hx := X.1.1
  have hb := X.1.2.1
  rw [m_X10_bring] at h
  refine lv_aload_n hx hb dX10_bring_0 rfl (lv_at hl 0 rfl) ?_
  refine lv_iload_n hx hb dX10_bring_1 rfl (lv_at hl 1 rfl) ?_
  obtain ⟨_, hq101, h⟩ := bnd_some h
  refine r_callVV X.1 hl hH (r := ()) (As := [.int x1]) (rest := []) (c_X10_checkModule l X.1.2.2.2.2.2.2.1 σ x1 () hq101) (cw_V X.1 1 mw_263 mw_260 mw_261 mw_262 mw_2 rfl rfl (by decide +kernel) ⟨Nat.le_of_ble_eq_true rfl, Nat.le_of_ble_eq_true rfl⟩) (r_recv X.1 hH (by decide) rfl rfl) rfl rfl (Nat.le_of_ble_eq_true rfl) dX10_bring_2 ⟨Nat.zero_le _, Nat.zero_le _⟩ (fun H locs hH => ?_)
  refine lv_iload_n hx hb dX10_bring_5 rfl (lv_at hl 2 rfl) ?_
  refine lv_iconst (v := 0) hx hb dX10_bring_6 (by decide) ?_
  refine lv_bipush (v := 7) hx hb dX10_bring_7 (by decide) ?_
  obtain ⟨_, hq104, h⟩ := bnd_some h
  refine r_callSV X.1 hl hH (r := ()) (As := [.int x2, .int 0, .int 7]) (rest := []) (c_X10_checkWithin l X.1.2.2.2.2.2.2.1 σ x2 0 7 () hq104) (cw_S X.1 3 mw_268 mw_266 mw_267 mw_2 rfl rfl (by decide +kernel) ⟨Nat.le_of_ble_eq_true rfl, Nat.le_of_ble_eq_true rfl⟩) rfl rfl (Nat.le_of_ble_eq_true rfl) dX10_bring_9 ⟨Nat.zero_le _, Nat.zero_le _⟩ (fun H locs hH => ?_)
  refine lv_iload_n hx hb dX10_bring_12 rfl (lv_at hl 3 rfl) ?_
  refine lv_iconst (v := (-1)) hx hb dX10_bring_13 (by decide) ?_
  refine lv_bipush (v := 15) hx hb dX10_bring_14 (by decide) ?_
  obtain ⟨_, hq107, h⟩ := bnd_some h
  refine r_callSV X.1 hl hH (r := ()) (As := [.int x3, .int ((-1)), .int 15]) (rest := []) (c_X10_checkWithin l X.1.2.2.2.2.2.2.1 σ x3 ((-1)) 15 () hq107) (cw_S X.1 3 mw_268 mw_266 mw_267 mw_2 rfl rfl (by decide +kernel) ⟨Nat.le_of_ble_eq_true rfl, Nat.le_of_ble_eq_true rfl⟩) rfl rfl (Nat.le_of_ble_eq_true rfl) dX10_bring_16 ⟨Nat.zero_le _, Nat.zero_le _⟩ (fun H locs hH => ?_)
  refine lv_iload hx hb dX10_bring_19 (lv_at hl 4 rfl) ?_
  refine lv_iconst (v := 0) hx hb dX10_bring_21 (by decide) ?_
  refine lv_bipush (v := 15) hx hb dX10_bring_22 (by decide) ?_
  obtain ⟨_, hq110, h⟩ := bnd_some h
  refine r_callSV X.1 hl hH (r := ()) (As := [.int x4, .int 0, .int 15]) (rest := []) (c_X10_checkWithin l X.1.2.2.2.2.2.2.1 σ x4 0 15 () hq110) (cw_S X.1 3 mw_268 mw_266 mw_267 mw_2 rfl rfl (by decide +kernel) ⟨Nat.le_of_ble_eq_true rfl, Nat.le_of_ble_eq_true rfl⟩) rfl rfl (Nat.le_of_ble_eq_true rfl) dX10_bring_24 ⟨Nat.zero_le _, Nat.zero_le _⟩ (fun H locs hH => ?_)
  refine lv_iload_n hx hb dX10_bring_27 rfl (lv_at hl 2 rfl) ?_
  refine lv_iload_n hx hb dX10_bring_28 rfl (lv_at hl 1 rfl) ?_
  refine lv_icmp_ne (tgt := 42) hx hb dX10_bring_29 (by decide) (fun hc => ?_) (fun hc => ?_)
  · replace h := if_f h hc
    refine lv_iload_n hx hb dX10_bring_42 rfl (lv_at hl 3 rfl) ?_
    refine lv_iconst (v := (-1)) hx hb dX10_bring_43 (by decide) ?_
    refine lv_icmp_ne (tgt := 62) hx hb dX10_bring_44 (by decide) (fun hc => ?_) (fun hc => ?_)
    · replace h := if_f h hc
      exact b_X10_bring_62 X x1 x2 x3 x4 x5  σ  h _ _ _ hH (lv_sub hl [0, 1, 2, 3, 4, 5] rfl)
    · replace h := if_t h hc
      refine lv_iload hx hb dX10_bring_47 (lv_at hl 4 rfl) ?_
      refine lv_if_eq (tgt := 62) hx hb dX10_bring_49 (by decide) (fun hc => ?_) (fun hc => ?_)
      · replace h := if_t h hc
        exact b_X10_bring_62 X x1 x2 x3 x4 x5  σ  h _ _ _ hH (lv_sub hl [0, 1, 2, 3, 4, 5] rfl)
      · replace h := if_f h hc
        cases h
  · replace h := if_t h hc
    cases h
