/-! WALKS, laid by wip/p23/gen.py: X3_tellAnswers, X3_makeStates, X9_renew, X10_countRenewal, X10_build -/
def m_X3_tellAnswers_78 (i0 : Nat) (i1 : Nat) (k2 : Sg → Int32 → Option Sg) (σ : Sg) (s0 : Int32) (s1 : Int32) (s2 : Int32) (s3 : Int32) (s4 : Int32) (x2 : Int32) (x3 : Int32) (x4 : Int32) : Option Sg := if x4 = 0 then bnd (m_X0_of σ s3 s2 s1 s0 0) (fun r106 => chk (inb s4 128) (st (wJ σ 1 i1 s4.toNatClampNeg r106) (fun σ109 => k2 σ109 (x2 + 1)))) else chk (inb x3 128) (bnd (m_X0_of σ s3 s2 s1 s0 (σ.1 34 i1 x3.toNatClampNeg)) (fun r113 => chk (inb s4 128) (st (wJ σ 1 i1 s4.toNatClampNeg r113) (fun σ116 => k2 σ116 (x2 + 1)))))
set_option maxHeartbeats 4000000 in
set_option maxRecDepth 100000 in
theorem b_X3_tellAnswers_78 {p : Program} {l : Launch} {e : Env} {s : State} {m : MethodId} {args : Array Value} {below : List Frame} {meth : Method} {c : Code} {Γ : GG} (X : MB Γ p s m args meth c cX3_tellAnswers 5 RX3 none) {σf : Sg} {rf : Unit} (i0 : Nat) (hi0 : i0 < 2) (i1 : Nat) (hi1 : i1 < 30) (k2 : Sg → Int32 → Option Sg) (hk2 : (∀ (σ : Sg) (x2 : Int32), k2 σ x2 = some σf → ∀ (H : Heap) (locs : List Loc) (ls : Array Slot), HW (IA Γ) Γ σ s.heap H locs → lv_has ls 5 [(0, .ref (adr Γ (kW i0 + 5))), (1, .ref (adr Γ (kR i1))), (2, .int x2)] → W p l e ({ frames := 1, cells := 0, slots := 0, locals := 24 } : Room) s m args below meth c H locs 0 0 (QV Γ σf rf below args s) (F0 m 2 ls []))) : (∀ (σ : Sg) (s0 : Int32) (s1 : Int32) (s2 : Int32) (s3 : Int32) (s4 : Int32) (x2 : Int32) (x3 : Int32) (x4 : Int32), (m_X3_tellAnswers_78 i0 i1 k2) σ s0 s1 s2 s3 s4 x2 x3 x4 = some σf → ∀ (H : Heap) (locs : List Loc) (ls : Array Slot), HW (IA Γ) Γ σ s.heap H locs → lv_has ls 5 [(0, .ref (adr Γ (kW i0 + 5))), (1, .ref (adr Γ (kR i1))), (2, .int x2), (3, .int x3), (4, .int x4)] → W p l e ({ frames := 1, cells := 0, slots := 0, locals := 24 } : Room) s m args below meth c H locs 0 0 (QV Γ σf rf below args s) (F0 m 78 ls [.int s0, .int s1, .int s2, .int s3, .int s4, .ref (adr Γ (kR i1 + 2))])) := by
  have hx := X.1.1
  have hb := X.1.2.1
  intro σ s0 s1 s2 s3 s4 x2 x3 x4 h H locs ls hH hl
  rw [m_X3_tellAnswers_78] at h
  refine lv_iload hx hb dX3_tellAnswers_78 (lv_at hl 4 rfl) ?_
  refine lv_if_eq (tgt := 92) hx hb dX3_tellAnswers_80 (by decide) (fun hc => ?_) (fun hc => ?_)
  · replace h := if_t h hc
    refine lv_iconst (v := 0) hx hb dX3_tellAnswers_92 (by decide) ?_
    obtain ⟨r106, hq105, h⟩ := bnd_some h
    refine r_callSL X.1 hl hH (As := [.int s3, .int s2, .int s1, .int s0, .int 0]) (rest := [.int s4, .ref (adr Γ (kR i1 + 2))]) (c_X0_of l X.1.2.2.2.2.2.2.1 σ s3 s2 s1 s0 0 _ hq105) (cw_S X.1 5 mw_108 mw_519 mw_106 mw_107 rfl rfl (by decide +kernel) ⟨Nat.le_of_ble_eq_true rfl, Nat.le_of_ble_eq_true rfl⟩) rfl rfl (Nat.le_of_ble_eq_true rfl) dX3_tellAnswers_93 ⟨Nat.zero_le _, Nat.zero_le _⟩ (fun H locs hH => ?_)
    obtain ⟨hg108, h⟩ := chk_some h
    obtain ⟨σ109, e110, h⟩ := st_some h
    refine r_lst X.1 hH (lR _ hi1 2 (by decide)) (dR2 _ hi1) hg108 dX3_tellAnswers_96 (fun H locs hH => ?_)
    replace hH : HW (IA Γ) Γ σ109 s.heap H locs := by rw [e110]; exact hH
    refine lv_iinc (v := x2 + 1) (lv' := [(2, .int (x2 + 1)), (0, .ref (adr Γ (kW i0 + 5))), (1, .ref (adr Γ (kR i1))), (3, .int x3), (4, .int x4)]) hx hb dX3_tellAnswers_97 hl (k := 2) rfl rfl (by decide) rfl (fun ls hl => ?_)
    refine lv_goto (tgt := 2) hx hb dX3_tellAnswers_100 (by decide) ?_
    exact hk2 σ109 (x2 + 1) h _ _ _ hH (lv_sub hl [1, 2, 0] rfl)
  · replace h := if_f h hc
    refine lv_aload_n hx hb dX3_tellAnswers_83 rfl (lv_at hl 1 rfl) ?_
    refine r_get X.1 hH (kR_lt hi1) (dR0 _ hi1) rfl inlX5 7 (by decide) (v := .ref (adr Γ (kR i1 + 6))) rfl mw_492 dX3_tellAnswers_84 ?_
    refine lv_iload_n hx hb dX3_tellAnswers_87 rfl (lv_at hl 3 rfl) ?_
    obtain ⟨hg111, h⟩ := chk_some h
    refine r_ild X.1 hH (lR _ hi1 6 (by decide)) (dR6 _ hi1) hg111 dX3_tellAnswers_88 ?_
    refine lv_goto (tgt := 93) hx hb dX3_tellAnswers_89 (by decide) ?_
    obtain ⟨r113, hq112, h⟩ := bnd_some h
    refine r_callSL X.1 hl hH (As := [.int s3, .int s2, .int s1, .int s0, .int (σ.1 34 i1 x3.toNatClampNeg)]) (rest := [.int s4, .ref (adr Γ (kR i1 + 2))]) (c_X0_of l X.1.2.2.2.2.2.2.1 σ s3 s2 s1 s0 (σ.1 34 i1 x3.toNatClampNeg) _ hq112) (cw_S X.1 5 mw_108 mw_519 mw_106 mw_107 rfl rfl (by decide +kernel) ⟨Nat.le_of_ble_eq_true rfl, Nat.le_of_ble_eq_true rfl⟩) rfl rfl (Nat.le_of_ble_eq_true rfl) dX3_tellAnswers_93 ⟨Nat.zero_le _, Nat.zero_le _⟩ (fun H locs hH => ?_)
    obtain ⟨hg115, h⟩ := chk_some h
    obtain ⟨σ116, e117, h⟩ := st_some h
    refine r_lst X.1 hH (lR _ hi1 2 (by decide)) (dR2 _ hi1) hg115 dX3_tellAnswers_96 (fun H locs hH => ?_)
    replace hH : HW (IA Γ) Γ σ116 s.heap H locs := by rw [e117]; exact hH
    refine lv_iinc (v := x2 + 1) (lv' := [(2, .int (x2 + 1)), (0, .ref (adr Γ (kW i0 + 5))), (1, .ref (adr Γ (kR i1))), (3, .int x3), (4, .int x4)]) hx hb dX3_tellAnswers_97 hl (k := 2) rfl rfl (by decide) rfl (fun ls hl => ?_)
    refine lv_goto (tgt := 2) hx hb dX3_tellAnswers_100 (by decide) ?_
    exact hk2 σ116 (x2 + 1) h _ _ _ hH (lv_sub hl [1, 2, 0] rfl)
def m_X3_tellAnswers_59 (i0 : Nat) (i1 : Nat) (k2 : Sg → Int32 → Option Sg) (σ : Sg) (s0 : Int32) (s1 : Int32) (s2 : Int32) (s3 : Int32) (x2 : Int32) (x3 : Int32) (x4 : Int32) : Option Sg := if x4 = 0 then m_X3_tellAnswers_78 i0 i1 k2 σ 0 s0 s1 s2 s3 x2 x3 x4 else chk (inb x3 128) (if (σ.1 32 i1 x3.toNatClampNeg) = 0 then m_X3_tellAnswers_78 i0 i1 k2 σ 0 s0 s1 s2 s3 x2 x3 x4 else m_X3_tellAnswers_78 i0 i1 k2 σ 1 s0 s1 s2 s3 x2 x3 x4)
set_option maxHeartbeats 4000000 in
set_option maxRecDepth 100000 in
theorem b_X3_tellAnswers_59 {p : Program} {l : Launch} {e : Env} {s : State} {m : MethodId} {args : Array Value} {below : List Frame} {meth : Method} {c : Code} {Γ : GG} (X : MB Γ p s m args meth c cX3_tellAnswers 5 RX3 none) {σf : Sg} {rf : Unit} (i0 : Nat) (hi0 : i0 < 2) (i1 : Nat) (hi1 : i1 < 30) (k2 : Sg → Int32 → Option Sg) (hk2 : (∀ (σ : Sg) (x2 : Int32), k2 σ x2 = some σf → ∀ (H : Heap) (locs : List Loc) (ls : Array Slot), HW (IA Γ) Γ σ s.heap H locs → lv_has ls 5 [(0, .ref (adr Γ (kW i0 + 5))), (1, .ref (adr Γ (kR i1))), (2, .int x2)] → W p l e ({ frames := 1, cells := 0, slots := 0, locals := 24 } : Room) s m args below meth c H locs 0 0 (QV Γ σf rf below args s) (F0 m 2 ls []))) : (∀ (σ : Sg) (s0 : Int32) (s1 : Int32) (s2 : Int32) (s3 : Int32) (x2 : Int32) (x3 : Int32) (x4 : Int32), (m_X3_tellAnswers_59 i0 i1 k2) σ s0 s1 s2 s3 x2 x3 x4 = some σf → ∀ (H : Heap) (locs : List Loc) (ls : Array Slot), HW (IA Γ) Γ σ s.heap H locs → lv_has ls 5 [(0, .ref (adr Γ (kW i0 + 5))), (1, .ref (adr Γ (kR i1))), (2, .int x2), (3, .int x3), (4, .int x4)] → W p l e ({ frames := 1, cells := 0, slots := 0, locals := 24 } : Room) s m args below meth c H locs 0 0 (QV Γ σf rf below args s) (F0 m 59 ls [.int s0, .int s1, .int s2, .int s3, .ref (adr Γ (kR i1 + 2))])) := by
  have hx := X.1.1
  have hb := X.1.2.1
  intro σ s0 s1 s2 s3 x2 x3 x4 h H locs ls hH hl
  rw [m_X3_tellAnswers_59] at h
  refine lv_iload hx hb dX3_tellAnswers_59 (lv_at hl 4 rfl) ?_
  refine lv_if_eq (tgt := 77) hx hb dX3_tellAnswers_61 (by decide) (fun hc => ?_) (fun hc => ?_)
  · replace h := if_t h hc
    refine lv_iconst (v := 0) hx hb dX3_tellAnswers_77 (by decide) ?_
    exact b_X3_tellAnswers_78 (rf := ()) X i0 hi0 i1 hi1 k2 hk2 σ 0 s0 s1 s2 s3 x2 x3 x4 h _ _ _ hH (lv_sub hl [0, 1, 2, 3, 4] rfl)
  · replace h := if_f h hc
    refine lv_aload_n hx hb dX3_tellAnswers_64 rfl (lv_at hl 1 rfl) ?_
    refine r_get X.1 hH (kR_lt hi1) (dR0 _ hi1) rfl inlX5 5 (by decide) (v := .ref (adr Γ (kR i1 + 4))) rfl mw_454 dX3_tellAnswers_65 ?_
    refine lv_iload_n hx hb dX3_tellAnswers_68 rfl (lv_at hl 3 rfl) ?_
    obtain ⟨hg118, h⟩ := chk_some h
    refine r_zld X.1 hH (lR _ hi1 4 (by decide)) (dR4 _ hi1) hg118 dX3_tellAnswers_69 ?_
    refine lv_if_eq (tgt := 77) hx hb dX3_tellAnswers_70 (by decide) (fun hc => ?_) (fun hc => ?_)
    · replace h := if_t h hc
      refine lv_iconst (v := 0) hx hb dX3_tellAnswers_77 (by decide) ?_
      exact b_X3_tellAnswers_78 (rf := ()) X i0 hi0 i1 hi1 k2 hk2 σ 0 s0 s1 s2 s3 x2 x3 x4 h _ _ _ hH (lv_sub hl [0, 1, 2, 3, 4] rfl)
    · replace h := if_f h hc
      refine lv_iconst (v := 1) hx hb dX3_tellAnswers_73 (by decide) ?_
      refine lv_goto (tgt := 78) hx hb dX3_tellAnswers_74 (by decide) ?_
      exact b_X3_tellAnswers_78 (rf := ()) X i0 hi0 i1 hi1 k2 hk2 σ 1 s0 s1 s2 s3 x2 x3 x4 h _ _ _ hH (lv_sub hl [0, 1, 2, 3, 4] rfl)
def m_X3_tellAnswers_45 (i0 : Nat) (i1 : Nat) (k2 : Sg → Int32 → Option Sg) (σ : Sg) (s0 : Int32) (s1 : Int32) (s2 : Int32) (x2 : Int32) (x3 : Int32) (x4 : Int32) : Option Sg := chk (inb x3 128) (if (σ.1 31 i1 x3.toNatClampNeg) = 0 then m_X3_tellAnswers_59 i0 i1 k2 σ 0 s0 s1 s2 x2 x3 x4 else m_X3_tellAnswers_59 i0 i1 k2 σ 1 s0 s1 s2 x2 x3 x4)
set_option maxHeartbeats 4000000 in
set_option maxRecDepth 100000 in
theorem b_X3_tellAnswers_45 {p : Program} {l : Launch} {e : Env} {s : State} {m : MethodId} {args : Array Value} {below : List Frame} {meth : Method} {c : Code} {Γ : GG} (X : MB Γ p s m args meth c cX3_tellAnswers 5 RX3 none) {σf : Sg} {rf : Unit} (i0 : Nat) (hi0 : i0 < 2) (i1 : Nat) (hi1 : i1 < 30) (k2 : Sg → Int32 → Option Sg) (hk2 : (∀ (σ : Sg) (x2 : Int32), k2 σ x2 = some σf → ∀ (H : Heap) (locs : List Loc) (ls : Array Slot), HW (IA Γ) Γ σ s.heap H locs → lv_has ls 5 [(0, .ref (adr Γ (kW i0 + 5))), (1, .ref (adr Γ (kR i1))), (2, .int x2)] → W p l e ({ frames := 1, cells := 0, slots := 0, locals := 24 } : Room) s m args below meth c H locs 0 0 (QV Γ σf rf below args s) (F0 m 2 ls []))) : (∀ (σ : Sg) (s0 : Int32) (s1 : Int32) (s2 : Int32) (x2 : Int32) (x3 : Int32) (x4 : Int32), (m_X3_tellAnswers_45 i0 i1 k2) σ s0 s1 s2 x2 x3 x4 = some σf → ∀ (H : Heap) (locs : List Loc) (ls : Array Slot), HW (IA Γ) Γ σ s.heap H locs → lv_has ls 5 [(0, .ref (adr Γ (kW i0 + 5))), (1, .ref (adr Γ (kR i1))), (2, .int x2), (3, .int x3), (4, .int x4)] → W p l e ({ frames := 1, cells := 0, slots := 0, locals := 24 } : Room) s m args below meth c H locs 0 0 (QV Γ σf rf below args s) (F0 m 45 ls [.int s0, .int s1, .int s2, .ref (adr Γ (kR i1 + 2))])) := by
  have hx := X.1.1
  have hb := X.1.2.1
  intro σ s0 s1 s2 x2 x3 x4 h H locs ls hH hl
  rw [m_X3_tellAnswers_45] at h
  refine lv_aload_n hx hb dX3_tellAnswers_45 rfl (lv_at hl 1 rfl) ?_
  refine r_get X.1 hH (kR_lt hi1) (dR0 _ hi1) rfl inlX5 4 (by decide) (v := .ref (adr Γ (kR i1 + 3))) rfl mw_446 dX3_tellAnswers_46 ?_
  refine lv_iload_n hx hb dX3_tellAnswers_49 rfl (lv_at hl 3 rfl) ?_
  obtain ⟨hg104, h⟩ := chk_some h
  refine r_ild X.1 hH (lR _ hi1 3 (by decide)) (dR3 _ hi1) hg104 dX3_tellAnswers_50 ?_
  refine lv_if_eq (tgt := 58) hx hb dX3_tellAnswers_51 (by decide) (fun hc => ?_) (fun hc => ?_)
  · replace h := if_t h hc
    refine lv_iconst (v := 0) hx hb dX3_tellAnswers_58 (by decide) ?_
    exact b_X3_tellAnswers_59 (rf := ()) X i0 hi0 i1 hi1 k2 hk2 σ 0 s0 s1 s2 x2 x3 x4 h _ _ _ hH (lv_sub hl [0, 1, 2, 3, 4] rfl)
  · replace h := if_f h hc
    refine lv_iconst (v := 1) hx hb dX3_tellAnswers_54 (by decide) ?_
    refine lv_goto (tgt := 59) hx hb dX3_tellAnswers_55 (by decide) ?_
    exact b_X3_tellAnswers_59 (rf := ()) X i0 hi0 i1 hi1 k2 hk2 σ 1 s0 s1 s2 x2 x3 x4 h _ _ _ hH (lv_sub hl [0, 1, 2, 3, 4] rfl)
def m_X3_tellAnswers_2 (i0 : Nat) (i1 : Nat)  : Nat → Sg → Int32 → Option Sg
  | 0, _, _ => none
  | n + 1, σ, x2 => if (σ.1 20 i0 0) ≤ x2 then some σ else chk (inb x2 128) (chk (inb (σ.1 21 i0 x2.toNatClampNeg) 128) (chk (inb (σ.1 21 i0 x2.toNatClampNeg) 128) (if (σ.1 32 i1 (σ.1 21 i0 x2.toNatClampNeg).toNatClampNeg) = 0 then m_X3_tellAnswers_45 i0 i1 (m_X3_tellAnswers_2 i0 i1 n) σ 1 (σ.1 21 i0 x2.toNatClampNeg) (σ.1 21 i0 x2.toNatClampNeg) x2 (σ.1 21 i0 x2.toNatClampNeg) (σ.1 33 i1 (σ.1 21 i0 x2.toNatClampNeg).toNatClampNeg) else m_X3_tellAnswers_45 i0 i1 (m_X3_tellAnswers_2 i0 i1 n) σ 0 (σ.1 21 i0 x2.toNatClampNeg) (σ.1 21 i0 x2.toNatClampNeg) x2 (σ.1 21 i0 x2.toNatClampNeg) (σ.1 33 i1 (σ.1 21 i0 x2.toNatClampNeg).toNatClampNeg))))
set_option maxHeartbeats 4000000 in
set_option maxRecDepth 100000 in
theorem b_X3_tellAnswers_2 {p : Program} {l : Launch} {e : Env} {s : State} {m : MethodId} {args : Array Value} {below : List Frame} {meth : Method} {c : Code} {Γ : GG} (X : MB Γ p s m args meth c cX3_tellAnswers 5 RX3 none) {σf : Sg} {rf : Unit} (i0 : Nat) (hi0 : i0 < 2) (i1 : Nat) (hi1 : i1 < 30) : ∀ (n : Nat), (∀ (σ : Sg) (x2 : Int32), (m_X3_tellAnswers_2 i0 i1 n) σ x2 = some σf → ∀ (H : Heap) (locs : List Loc) (ls : Array Slot), HW (IA Γ) Γ σ s.heap H locs → lv_has ls 5 [(0, .ref (adr Γ (kW i0 + 5))), (1, .ref (adr Γ (kR i1))), (2, .int x2)] → W p l e ({ frames := 1, cells := 0, slots := 0, locals := 24 } : Room) s m args below meth c H locs 0 0 (QV Γ σf rf below args s) (F0 m 2 ls [])) := by
  have hx := X.1.1
  have hb := X.1.2.1
  intro n
  induction n with
  | zero => intro σ x2 h; rw [m_X3_tellAnswers_2] at h; cases h
  | succ n ih =>
    intro σ x2 h H locs ls hH hl
    rw [m_X3_tellAnswers_2] at h
    refine lv_iload_n hx hb dX3_tellAnswers_2 rfl (lv_at hl 2 rfl) ?_
    refine lv_aload_n hx hb dX3_tellAnswers_3 rfl (lv_at hl 0 rfl) ?_
    refine r_get X.1 hH (lW _ hi0 5 (by decide)) (dW5 _ hi0) rfl inlX3 3 (by decide) (v := .int (σ.1 20 i0 0)) rfl mw_445 dX3_tellAnswers_4 ?_
    refine lv_icmp_ge (tgt := 103) hx hb dX3_tellAnswers_7 (by decide) (fun hc => ?_) (fun hc => ?_)
    · replace h := if_t h hc
      cases h
      exact e_void (v := rf) X hH dX3_tellAnswers_103
    · replace h := if_f h hc
      refine lv_aload_n hx hb dX3_tellAnswers_10 rfl (lv_at hl 0 rfl) ?_
      refine r_get X.1 hH (lW _ hi0 5 (by decide)) (dW5 _ hi0) rfl inlX3 2 (by decide) (v := .ref (adr Γ (kW i0 + 7))) rfl mw_116 dX3_tellAnswers_11 ?_
      refine lv_iload_n hx hb dX3_tellAnswers_14 rfl (lv_at hl 2 rfl) ?_
      obtain ⟨hg101, h⟩ := chk_some h
      refine r_ild X.1 hH (lW _ hi0 7 (by decide)) (dW7 _ hi0) hg101 dX3_tellAnswers_15 ?_
      refine lv_istore_n (lv' := [(3, .int (σ.1 21 i0 x2.toNatClampNeg)), (0, .ref (adr Γ (kW i0 + 5))), (1, .ref (adr Γ (kR i1))), (2, .int x2)]) hx hb dX3_tellAnswers_16 rfl hl (by decide) rfl (fun ls hl => ?_)
      refine lv_aload_n hx hb dX3_tellAnswers_17 rfl (lv_at hl 2 rfl) ?_
      refine r_get X.1 hH (kR_lt hi1) (dR0 _ hi1) rfl inlX5 6 (by decide) (v := .ref (adr Γ (kR i1 + 5))) rfl mw_491 dX3_tellAnswers_18 ?_
      refine lv_iload_n hx hb dX3_tellAnswers_21 rfl (lv_at hl 0 rfl) ?_
      obtain ⟨hg102, h⟩ := chk_some h
      refine r_zld X.1 hH (lR _ hi1 5 (by decide)) (dR5 _ hi1) hg102 dX3_tellAnswers_22 ?_
      refine lv_istore (lv' := [(4, .int (σ.1 33 i1 (σ.1 21 i0 x2.toNatClampNeg).toNatClampNeg)), (3, .int (σ.1 21 i0 x2.toNatClampNeg)), (0, .ref (adr Γ (kW i0 + 5))), (1, .ref (adr Γ (kR i1))), (2, .int x2)]) hx hb dX3_tellAnswers_23 hl (by decide) rfl (fun ls hl => ?_)
      refine lv_aload_n hx hb dX3_tellAnswers_25 rfl (lv_at hl 3 rfl) ?_
      refine r_get X.1 hH (kR_lt hi1) (dR0 _ hi1) rfl inlX5 3 (by decide) (v := .ref (adr Γ (kR i1 + 2))) rfl mw_518 dX3_tellAnswers_26 ?_
      refine lv_iload_n hx hb dX3_tellAnswers_29 rfl (lv_at hl 1 rfl) ?_
      refine lv_iload_n hx hb dX3_tellAnswers_30 rfl (lv_at hl 1 rfl) ?_
      refine lv_aload_n hx hb dX3_tellAnswers_31 rfl (lv_at hl 3 rfl) ?_
      refine r_get X.1 hH (kR_lt hi1) (dR0 _ hi1) rfl inlX5 5 (by decide) (v := .ref (adr Γ (kR i1 + 4))) rfl mw_454 dX3_tellAnswers_32 ?_
      refine lv_iload_n hx hb dX3_tellAnswers_35 rfl (lv_at hl 1 rfl) ?_
      obtain ⟨hg103, h⟩ := chk_some h
      refine r_zld X.1 hH (lR _ hi1 4 (by decide)) (dR4 _ hi1) hg103 dX3_tellAnswers_36 ?_
      refine lv_if_ne (tgt := 44) hx hb dX3_tellAnswers_37 (by decide) (fun hc => ?_) (fun hc => ?_)
      · replace h := if_f h hc
        refine lv_iconst (v := 0) hx hb dX3_tellAnswers_44 (by decide) ?_
        exact b_X3_tellAnswers_45 (rf := ()) X i0 hi0 i1 hi1 (m_X3_tellAnswers_2 i0 i1 n) ih σ 0 (σ.1 21 i0 x2.toNatClampNeg) (σ.1 21 i0 x2.toNatClampNeg) x2 (σ.1 21 i0 x2.toNatClampNeg) (σ.1 33 i1 (σ.1 21 i0 x2.toNatClampNeg).toNatClampNeg) h _ _ _ hH (lv_sub hl [2, 3, 4, 1, 0] rfl)
      · replace h := if_t h hc
        refine lv_iconst (v := 1) hx hb dX3_tellAnswers_40 (by decide) ?_
        refine lv_goto (tgt := 45) hx hb dX3_tellAnswers_41 (by decide) ?_
        exact b_X3_tellAnswers_45 (rf := ()) X i0 hi0 i1 hi1 (m_X3_tellAnswers_2 i0 i1 n) ih σ 1 (σ.1 21 i0 x2.toNatClampNeg) (σ.1 21 i0 x2.toNatClampNeg) x2 (σ.1 21 i0 x2.toNatClampNeg) (σ.1 33 i1 (σ.1 21 i0 x2.toNatClampNeg).toNatClampNeg) h _ _ _ hH (lv_sub hl [2, 3, 4, 1, 0] rfl)
/-- CutoffMill$Maker.tellAnswers(LCutoffMill$Result;)V -/
def m_X3_tellAnswers (σ : Sg) (i0 : Nat) (i1 : Nat) : Option Sg := m_X3_tellAnswers_2 i0 i1 1000 σ 0
set_option maxHeartbeats 4000000 in
set_option maxRecDepth 100000 in
theorem c_X3_tellAnswers (l : Launch) {Γ : GG} (hJ : IJ Γ) (σ : Sg) (i0 : Nat) (hi0 : i0 < 2) (i1 : Nat) (hi1 : i1 < 30) (σf : Sg) (rf : Unit) (h : m_X3_tellAnswers σ i0 i1 = some σf) : CV l yX3_tellAnswers (wy yX3_tellAnswers cX3_tellAnswers 5 none) { frames := 1, cells := 0, slots := 0, locals := 24 } Γ σ [.ref (adr Γ (kW i0 + 5)), .ref (adr Γ (kR i1))] σf rf := by
  refine met_of (by decide +kernel) hJ (Nat.le_of_ble_eq_true rfl) (fun p e s m below meth c ls X hH hl => ?_)
  have hl : lv_has ls 5 [(0, .ref (adr Γ (kW i0 + 5))), (1, .ref (adr Γ (kR i1)))] := hl
  have hx := X.1.1
  have hb := X.1.2.1
  rw [m_X3_tellAnswers] at h
  refine lv_iconst (v := 0) hx hb dX3_tellAnswers_0 (by decide) ?_
  refine lv_istore_n (lv' := [(2, .int 0), (0, .ref (adr Γ (kW i0 + 5))), (1, .ref (adr Γ (kR i1)))]) hx hb dX3_tellAnswers_1 rfl hl (by decide) rfl (fun ls hl => ?_)
  exact b_X3_tellAnswers_2 (rf := ()) X i0 hi0 i1 hi1  1000 σ 0 h _ _ _ hH (lv_sub hl [1, 2, 0] rfl)
def m_X3_makeStates_50 (i0 : Nat) (i1 : Nat)  : Nat → Sg → Int32 → Option Sg
  | 0, _, _ => none
  | n + 1, σ, x3 => if (σ.1 20 i0 0) ≤ x3 then bnd (m_X3_spreadFaults σ i0 i1) (fun σ109 => bnd (m_X3_findPlain σ109 i0 i1) (fun σ112 => bnd (m_X3_findCalls σ112 i0 i1) (fun σ115 => bnd (m_X3_tellAnswers σ115 i0 i1) (fun σ118 => some σ118)))) else chk (inb x3 128) (chk (inb (σ.1 21 i0 x3.toNatClampNeg) 128) (if (σ.1 23 i0 (σ.1 21 i0 x3.toNatClampNeg).toNatClampNeg) = 0 then m_X3_makeStates_50 i0 i1 n σ (x3 + 1) else chk (inb x3 128) (bnd2 (m_X3_comesBack σ i0 (σ.1 21 i0 x3.toNatClampNeg)) (fun σ124 r123 => if r123 = 0 then m_X3_makeStates_50 i0 i1 n σ124 (x3 + 1) else chk (inb x3 128) (chk (inb (σ124.1 21 i0 x3.toNatClampNeg) 128) (st (wI σ124 31 i1 (σ124.1 21 i0 x3.toNatClampNeg).toNatClampNeg 4) (fun σ127 => m_X3_makeStates_50 i0 i1 n σ127 (x3 + 1))))))))
set_option maxHeartbeats 4000000 in
set_option maxRecDepth 100000 in
theorem b_X3_makeStates_50 {p : Program} {l : Launch} {e : Env} {s : State} {m : MethodId} {args : Array Value} {below : List Frame} {meth : Method} {c : Code} {Γ : GG} (X : MB Γ p s m args meth c cX3_makeStates 4 RX3 none) {σf : Sg} {rf : Unit} (i0 : Nat) (hi0 : i0 < 2) (i1 : Nat) (hi1 : i1 < 30) : ∀ (n : Nat), (∀ (σ : Sg) (x3 : Int32), (m_X3_makeStates_50 i0 i1 n) σ x3 = some σf → ∀ (H : Heap) (locs : List Loc) (ls : Array Slot), HW (IA Γ) Γ σ s.heap H locs → lv_has ls 4 [(0, .ref (adr Γ (kW i0 + 5))), (1, .ref (adr Γ (kR i1))), (3, .int x3)] → W p l e ({ frames := 3, cells := 0, slots := 0, locals := 71 } : Room) s m args below meth c H locs 0 0 (QV Γ σf rf below args s) (F0 m 50 ls [])) := by
  have hx := X.1.1
  have hb := X.1.2.1
  intro n
  induction n with
  | zero => intro σ x3 h; rw [m_X3_makeStates_50] at h; cases h
  | succ n ih =>
    intro σ x3 h H locs ls hH hl
    rw [m_X3_makeStates_50] at h
    refine lv_iload_n hx hb dX3_makeStates_50 rfl (lv_at hl 2 rfl) ?_
    refine lv_aload_n hx hb dX3_makeStates_51 rfl (lv_at hl 0 rfl) ?_
    refine r_get X.1 hH (lW _ hi0 5 (by decide)) (dW5 _ hi0) rfl inlX3 3 (by decide) (v := .int (σ.1 20 i0 0)) rfl mw_445 dX3_makeStates_52 ?_
    refine lv_icmp_ge (tgt := 103) hx hb dX3_makeStates_55 (by decide) (fun hc => ?_) (fun hc => ?_)
    · replace h := if_t h hc
      refine lv_aload_n hx hb dX3_makeStates_103 rfl (lv_at hl 0 rfl) ?_
      refine lv_aload_n hx hb dX3_makeStates_104 rfl (lv_at hl 1 rfl) ?_
      obtain ⟨σ109, hq107, h⟩ := bnd_some h
      refine r_callVV X.1 hl hH (r := ()) (As := [.ref (adr Γ (kR i1))]) (rest := []) (c_X3_spreadFaults l X.1.2.2.2.2.2.2.1 σ i0 hi0 i1 hi1 _ () hq107) (cw_V X.1 1 mw_482 mw_479 mw_480 mw_481 mw_77 rfl rfl (by decide +kernel) ⟨Nat.le_of_ble_eq_true rfl, Nat.le_of_ble_eq_true rfl⟩) (r_recv X.1 hH (lW _ hi0 5 (by decide)) (dW5 _ hi0) rfl) rfl rfl (Nat.le_of_ble_eq_true rfl) dX3_makeStates_105 ⟨Nat.zero_le _, Nat.zero_le _⟩ (fun H locs hH => ?_)
      refine lv_aload_n hx hb dX3_makeStates_108 rfl (lv_at hl 0 rfl) ?_
      refine lv_aload_n hx hb dX3_makeStates_109 rfl (lv_at hl 1 rfl) ?_
      obtain ⟨σ112, hq110, h⟩ := bnd_some h
      refine r_callVV X.1 hl hH (r := ()) (As := [.ref (adr Γ (kR i1))]) (rest := []) (c_X3_findPlain l X.1.2.2.2.2.2.2.1 σ109 i0 hi0 i1 hi1 _ () hq110) (cw_V X.1 1 mw_490 mw_487 mw_488 mw_489 mw_77 rfl rfl (by decide +kernel) ⟨Nat.le_of_ble_eq_true rfl, Nat.le_of_ble_eq_true rfl⟩) (r_recv X.1 hH (lW _ hi0 5 (by decide)) (dW5 _ hi0) rfl) rfl rfl (Nat.le_of_ble_eq_true rfl) dX3_makeStates_110 ⟨Nat.zero_le _, Nat.zero_le _⟩ (fun H locs hH => ?_)
      refine lv_aload_n hx hb dX3_makeStates_113 rfl (lv_at hl 0 rfl) ?_
      refine lv_aload_n hx hb dX3_makeStates_114 rfl (lv_at hl 1 rfl) ?_
      obtain ⟨σ115, hq113, h⟩ := bnd_some h
      refine r_callVV X.1 hl hH (r := ()) (As := [.ref (adr Γ (kR i1))]) (rest := []) (c_X3_findCalls l X.1.2.2.2.2.2.2.1 σ112 i0 hi0 i1 hi1 _ () hq113) (cw_V X.1 1 mw_507 mw_504 mw_505 mw_506 mw_77 rfl rfl (by decide +kernel) ⟨Nat.le_of_ble_eq_true rfl, Nat.le_of_ble_eq_true rfl⟩) (r_recv X.1 hH (lW _ hi0 5 (by decide)) (dW5 _ hi0) rfl) rfl rfl (Nat.le_of_ble_eq_true rfl) dX3_makeStates_115 ⟨Nat.zero_le _, Nat.zero_le _⟩ (fun H locs hH => ?_)
      refine lv_aload_n hx hb dX3_makeStates_118 rfl (lv_at hl 0 rfl) ?_
      refine lv_aload_n hx hb dX3_makeStates_119 rfl (lv_at hl 1 rfl) ?_
      obtain ⟨σ118, hq116, h⟩ := bnd_some h
      refine r_callVV X.1 hl hH (r := ()) (As := [.ref (adr Γ (kR i1))]) (rest := []) (c_X3_tellAnswers l X.1.2.2.2.2.2.2.1 σ115 i0 hi0 i1 hi1 _ () hq116) (cw_V X.1 1 mw_517 mw_514 mw_515 mw_516 mw_77 rfl rfl (by decide +kernel) ⟨Nat.le_of_ble_eq_true rfl, Nat.le_of_ble_eq_true rfl⟩) (r_recv X.1 hH (lW _ hi0 5 (by decide)) (dW5 _ hi0) rfl) rfl rfl (Nat.le_of_ble_eq_true rfl) dX3_makeStates_120 ⟨Nat.zero_le _, Nat.zero_le _⟩ (fun H locs hH => ?_)
      cases h
      exact e_void (v := rf) X hH dX3_makeStates_123
    · replace h := if_f h hc
      refine lv_aload_n hx hb dX3_makeStates_58 rfl (lv_at hl 0 rfl) ?_
      refine r_get X.1 hH (lW _ hi0 5 (by decide)) (dW5 _ hi0) rfl inlX3 5 (by decide) (v := .ref (adr Γ (kW i0 + 9))) rfl mw_118 dX3_makeStates_59 ?_
      refine lv_aload_n hx hb dX3_makeStates_62 rfl (lv_at hl 0 rfl) ?_
      refine r_get X.1 hH (lW _ hi0 5 (by decide)) (dW5 _ hi0) rfl inlX3 2 (by decide) (v := .ref (adr Γ (kW i0 + 7))) rfl mw_116 dX3_makeStates_63 ?_
      refine lv_iload_n hx hb dX3_makeStates_66 rfl (lv_at hl 2 rfl) ?_
      obtain ⟨hg119, h⟩ := chk_some h
      refine r_ild X.1 hH (lW _ hi0 7 (by decide)) (dW7 _ hi0) hg119 dX3_makeStates_67 ?_
      obtain ⟨hg120, h⟩ := chk_some h
      refine r_zld X.1 hH (lW _ hi0 9 (by decide)) (dW9 _ hi0) hg120 dX3_makeStates_68 ?_
      refine lv_if_eq (tgt := 97) hx hb dX3_makeStates_69 (by decide) (fun hc => ?_) (fun hc => ?_)
      · replace h := if_t h hc
        refine lv_iinc (v := x3 + 1) (lv' := [(3, .int (x3 + 1)), (0, .ref (adr Γ (kW i0 + 5))), (1, .ref (adr Γ (kR i1)))]) hx hb dX3_makeStates_97 hl (k := 2) rfl rfl (by decide) rfl (fun ls hl => ?_)
        refine lv_goto (tgt := 50) hx hb dX3_makeStates_100 (by decide) ?_
        exact ih σ (x3 + 1) h _ _ _ hH (lv_sub hl [1, 2, 0] rfl)
      · replace h := if_f h hc
        refine lv_aload_n hx hb dX3_makeStates_72 rfl (lv_at hl 0 rfl) ?_
        refine lv_aload_n hx hb dX3_makeStates_73 rfl (lv_at hl 0 rfl) ?_
        refine r_get X.1 hH (lW _ hi0 5 (by decide)) (dW5 _ hi0) rfl inlX3 2 (by decide) (v := .ref (adr Γ (kW i0 + 7))) rfl mw_116 dX3_makeStates_74 ?_
        refine lv_iload_n hx hb dX3_makeStates_77 rfl (lv_at hl 2 rfl) ?_
        obtain ⟨hg121, h⟩ := chk_some h
        refine r_ild X.1 hH (lW _ hi0 7 (by decide)) (dW7 _ hi0) hg121 dX3_makeStates_78 ?_
        obtain ⟨σ124, r123, hq122, h⟩ := bnd2_some h
        refine r_callVI X.1 hl hH (As := [.int (σ.1 21 i0 x3.toNatClampNeg)]) (rest := []) (c_X3_comesBack l X.1.2.2.2.2.2.2.1 σ i0 hi0 (σ.1 21 i0 x3.toNatClampNeg) _ _ hq122) (cw_V X.1 1 mw_478 mw_475 mw_476 mw_477 mw_77 rfl rfl (by decide +kernel) ⟨Nat.le_of_ble_eq_true rfl, Nat.le_of_ble_eq_true rfl⟩) (r_recv X.1 hH (lW _ hi0 5 (by decide)) (dW5 _ hi0) rfl) rfl rfl (Nat.le_of_ble_eq_true rfl) dX3_makeStates_79 ⟨Nat.zero_le _, Nat.zero_le _⟩ (fun H locs hH => ?_)
        refine lv_if_eq (tgt := 97) hx hb dX3_makeStates_82 (by decide) (fun hc => ?_) (fun hc => ?_)
        · replace h := if_t h hc
          refine lv_iinc (v := x3 + 1) (lv' := [(3, .int (x3 + 1)), (0, .ref (adr Γ (kW i0 + 5))), (1, .ref (adr Γ (kR i1)))]) hx hb dX3_makeStates_97 hl (k := 2) rfl rfl (by decide) rfl (fun ls hl => ?_)
          refine lv_goto (tgt := 50) hx hb dX3_makeStates_100 (by decide) ?_
          exact ih σ124 (x3 + 1) h _ _ _ hH (lv_sub hl [1, 2, 0] rfl)
        · replace h := if_f h hc
          refine lv_aload_n hx hb dX3_makeStates_85 rfl (lv_at hl 1 rfl) ?_
          refine r_get X.1 hH (kR_lt hi1) (dR0 _ hi1) rfl inlX5 4 (by decide) (v := .ref (adr Γ (kR i1 + 3))) rfl mw_446 dX3_makeStates_86 ?_
          refine lv_aload_n hx hb dX3_makeStates_89 rfl (lv_at hl 0 rfl) ?_
          refine r_get X.1 hH (lW _ hi0 5 (by decide)) (dW5 _ hi0) rfl inlX3 2 (by decide) (v := .ref (adr Γ (kW i0 + 7))) rfl mw_116 dX3_makeStates_90 ?_
          refine lv_iload_n hx hb dX3_makeStates_93 rfl (lv_at hl 2 rfl) ?_
          obtain ⟨hg125, h⟩ := chk_some h
          refine r_ild X.1 hH (lW _ hi0 7 (by decide)) (dW7 _ hi0) hg125 dX3_makeStates_94 ?_
          refine lv_iconst (v := 4) hx hb dX3_makeStates_95 (by decide) ?_
          obtain ⟨hg126, h⟩ := chk_some h
          obtain ⟨σ127, e128, h⟩ := st_some h
          refine r_ist X.1 hH (lR _ hi1 3 (by decide)) (dR3 _ hi1) hg126 dX3_makeStates_96 (fun H locs hH => ?_)
          replace hH : HW (IA Γ) Γ σ127 s.heap H locs := by rw [e128]; exact hH
          refine lv_iinc (v := x3 + 1) (lv' := [(3, .int (x3 + 1)), (0, .ref (adr Γ (kW i0 + 5))), (1, .ref (adr Γ (kR i1)))]) hx hb dX3_makeStates_97 hl (k := 2) rfl rfl (by decide) rfl (fun ls hl => ?_)
          refine lv_goto (tgt := 50) hx hb dX3_makeStates_100 (by decide) ?_
          exact ih σ127 (x3 + 1) h _ _ _ hH (lv_sub hl [1, 2, 0] rfl)
def m_X3_makeStates_2 (i0 : Nat) (i1 : Nat)  : Nat → Sg → Int32 → Option Sg
  | 0, _, _ => none
  | n + 1, σ, x3 => if 8 ≤ x3 then bnd (m_X3_findMembers σ i0 i1) (fun σ103 => bnd (m_X3_findDirectFaults σ103 i0 i1) (fun σ106 => m_X3_makeStates_50 i0 i1 1000 σ106 0)) else bnd (m_X6_has σ (σ.1 30 i1 0) x3) (fun r130 => if r130 = 0 then chk (inb x3 (lenP 0 i0)) (bnd (σ.2.2 0 i0 x3.toNatClampNeg) (fun r133 => chk (decide (r133 < 30)) (chk (inb x3 (lenP 2 i0)) (st (wP σ 2 i0 x3.toNatClampNeg r133) (fun σ136 => m_X3_makeStates_2 i0 i1 n σ136 (x3 + 1)))))) else chk (inb x3 (lenP 2 i0)) (st (wP σ 2 i0 x3.toNatClampNeg i1) (fun σ139 => m_X3_makeStates_2 i0 i1 n σ139 (x3 + 1))))
set_option maxHeartbeats 4000000 in
set_option maxRecDepth 100000 in
theorem b_X3_makeStates_2 {p : Program} {l : Launch} {e : Env} {s : State} {m : MethodId} {args : Array Value} {below : List Frame} {meth : Method} {c : Code} {Γ : GG} (X : MB Γ p s m args meth c cX3_makeStates 4 RX3 none) {σf : Sg} {rf : Unit} (i0 : Nat) (hi0 : i0 < 2) (i1 : Nat) (hi1 : i1 < 30) : ∀ (n : Nat), (∀ (σ : Sg) (x3 : Int32), (m_X3_makeStates_2 i0 i1 n) σ x3 = some σf → ∀ (H : Heap) (locs : List Loc) (ls : Array Slot), HW (IA Γ) Γ σ s.heap H locs → lv_has ls 4 [(0, .ref (adr Γ (kW i0 + 5))), (1, .ref (adr Γ (kR i1))), (2, .ref (adr Γ (kW i0 + 3))), (3, .int x3)] → W p l e ({ frames := 3, cells := 0, slots := 0, locals := 71 } : Room) s m args below meth c H locs 0 0 (QV Γ σf rf below args s) (F0 m 2 ls [])) := by
  have hx := X.1.1
  have hb := X.1.2.1
  intro n
  induction n with
  | zero => intro σ x3 h; rw [m_X3_makeStates_2] at h; cases h
  | succ n ih =>
    intro σ x3 h H locs ls hH hl
    rw [m_X3_makeStates_2] at h
    refine lv_iload_n hx hb dX3_makeStates_2 rfl (lv_at hl 3 rfl) ?_
    refine lv_bipush (v := 8) hx hb dX3_makeStates_3 (by decide) ?_
    refine lv_icmp_ge (tgt := 38) hx hb dX3_makeStates_5 (by decide) (fun hc => ?_) (fun hc => ?_)
    · replace h := if_t h hc
      refine lv_aload_n hx hb dX3_makeStates_38 rfl (lv_at hl 0 rfl) ?_
      refine lv_aload_n hx hb dX3_makeStates_39 rfl (lv_at hl 1 rfl) ?_
      obtain ⟨σ103, hq101, h⟩ := bnd_some h
      refine r_callVV X.1 hl hH (r := ()) (As := [.ref (adr Γ (kR i1))]) (rest := []) (c_X3_findMembers l X.1.2.2.2.2.2.2.1 σ i0 hi0 i1 hi1 _ () hq101) (cw_V X.1 1 mw_451 mw_448 mw_449 mw_450 mw_77 rfl rfl (by decide +kernel) ⟨Nat.le_of_ble_eq_true rfl, Nat.le_of_ble_eq_true rfl⟩) (r_recv X.1 hH (lW _ hi0 5 (by decide)) (dW5 _ hi0) rfl) rfl rfl (Nat.le_of_ble_eq_true rfl) dX3_makeStates_40 ⟨Nat.zero_le _, Nat.zero_le _⟩ (fun H locs hH => ?_)
      refine lv_aload_n hx hb dX3_makeStates_43 rfl (lv_at hl 0 rfl) ?_
      refine lv_aload_n hx hb dX3_makeStates_44 rfl (lv_at hl 1 rfl) ?_
      obtain ⟨σ106, hq104, h⟩ := bnd_some h
      refine r_callVV X.1 hl hH (r := ()) (As := [.ref (adr Γ (kR i1))]) (rest := []) (c_X3_findDirectFaults l X.1.2.2.2.2.2.2.1 σ103 i0 hi0 i1 hi1 _ () hq104) (cw_V X.1 1 mw_468 mw_465 mw_466 mw_467 mw_77 rfl rfl (by decide +kernel) ⟨Nat.le_of_ble_eq_true rfl, Nat.le_of_ble_eq_true rfl⟩) (r_recv X.1 hH (lW _ hi0 5 (by decide)) (dW5 _ hi0) rfl) rfl rfl (Nat.le_of_ble_eq_true rfl) dX3_makeStates_45 ⟨Nat.zero_le _, Nat.zero_le _⟩ (fun H locs hH => ?_)
      refine lv_iconst (v := 0) hx hb dX3_makeStates_48 (by decide) ?_
      refine lv_istore_n (lv' := [(3, .int 0), (0, .ref (adr Γ (kW i0 + 5))), (1, .ref (adr Γ (kR i1))), (2, .ref (adr Γ (kW i0 + 3)))]) hx hb dX3_makeStates_49 rfl hl (by decide) rfl (fun ls hl => ?_)
      exact b_X3_makeStates_50 (rf := ()) X i0 hi0 i1 hi1  1000 σ106 0 h _ _ _ hH (lv_sub hl [1, 2, 0] rfl)
    · replace h := if_f h hc
      refine lv_aload_n hx hb dX3_makeStates_8 rfl (lv_at hl 0 rfl) ?_
      refine r_get X.1 hH (lW _ hi0 5 (by decide)) (dW5 _ hi0) rfl inlX3 1 (by decide) (v := .ref (adr Γ (kW i0 + 6))) rfl mw_115 dX3_makeStates_9 ?_
      refine lv_iload_n hx hb dX3_makeStates_12 rfl (lv_at hl 3 rfl) ?_
      refine lv_aload_n hx hb dX3_makeStates_13 rfl (lv_at hl 1 rfl) ?_
      refine r_get X.1 hH (kR_lt hi1) (dR0 _ hi1) rfl inlX5 0 (by decide) (v := .int (σ.1 30 i1 0)) rfl mw_444 dX3_makeStates_14 ?_
      refine lv_iload_n hx hb dX3_makeStates_17 rfl (lv_at hl 3 rfl) ?_
      obtain ⟨r130, hq129, h⟩ := bnd_some h
      refine r_callSI X.1 hl hH (As := [.int (σ.1 30 i1 0), .int x3]) (rest := [.int x3, .ref (adr Γ (kW i0 + 6))]) (c_X6_has l X.1.2.2.2.2.2.2.1 σ (σ.1 30 i1 0) x3 _ hq129) (cw_S X.1 2 mw_204 mw_447 mw_203 mw_20 rfl rfl (by decide +kernel) ⟨Nat.le_of_ble_eq_true rfl, Nat.le_of_ble_eq_true rfl⟩) rfl rfl (Nat.le_of_ble_eq_true rfl) dX3_makeStates_18 ⟨Nat.zero_le _, Nat.zero_le _⟩ (fun H locs hH => ?_)
      refine lv_if_eq (tgt := 28) hx hb dX3_makeStates_21 (by decide) (fun hc => ?_) (fun hc => ?_)
      · replace h := if_t h hc
        refine lv_aload_n hx hb dX3_makeStates_28 rfl (lv_at hl 2 rfl) ?_
        refine lv_iload_n hx hb dX3_makeStates_29 rfl (lv_at hl 3 rfl) ?_
        obtain ⟨hg132, h⟩ := chk_some h
        obtain ⟨r133, he134, h⟩ := bnd_some h
        obtain ⟨hr133, h⟩ := chk_some h
        replace hr133 := of_decide_eq_true hr133
        refine r_ald X.1 hH (lW _ hi0 3 (by decide)) (dW3 _ hi0) hg132 he134 dX3_makeStates_30 ?_
        obtain ⟨hg135, h⟩ := chk_some h
        obtain ⟨σ136, e137, h⟩ := st_some h
        refine r_ast X.1 hH (lW _ hi0 6 (by decide)) (dW6 _ hi0) hg135 hr133 dX3_makeStates_31 (fun H locs hH => ?_)
        replace hH : HW (IA Γ) Γ σ136 s.heap H locs := by rw [e137]; exact hH
        refine lv_iinc (v := x3 + 1) (lv' := [(3, .int (x3 + 1)), (0, .ref (adr Γ (kW i0 + 5))), (1, .ref (adr Γ (kR i1))), (2, .ref (adr Γ (kW i0 + 3)))]) hx hb dX3_makeStates_32 hl (k := 3) rfl rfl (by decide) rfl (fun ls hl => ?_)
        refine lv_goto (tgt := 2) hx hb dX3_makeStates_35 (by decide) ?_
        exact ih σ136 (x3 + 1) h _ _ _ hH (lv_sub hl [1, 2, 3, 0] rfl)
      · replace h := if_f h hc
        refine lv_aload_n hx hb dX3_makeStates_24 rfl (lv_at hl 1 rfl) ?_
        refine lv_goto (tgt := 31) hx hb dX3_makeStates_25 (by decide) ?_
        obtain ⟨hg138, h⟩ := chk_some h
        obtain ⟨σ139, e140, h⟩ := st_some h
        refine r_ast X.1 hH (lW _ hi0 6 (by decide)) (dW6 _ hi0) hg138 hi1 dX3_makeStates_31 (fun H locs hH => ?_)
        replace hH : HW (IA Γ) Γ σ139 s.heap H locs := by rw [e140]; exact hH
        refine lv_iinc (v := x3 + 1) (lv' := [(3, .int (x3 + 1)), (0, .ref (adr Γ (kW i0 + 5))), (1, .ref (adr Γ (kR i1))), (2, .ref (adr Γ (kW i0 + 3)))]) hx hb dX3_makeStates_32 hl (k := 3) rfl rfl (by decide) rfl (fun ls hl => ?_)
        refine lv_goto (tgt := 2) hx hb dX3_makeStates_35 (by decide) ?_
        exact ih σ139 (x3 + 1) h _ _ _ hH (lv_sub hl [1, 2, 3, 0] rfl)
/-- CutoffMill$Maker.makeStates(LCutoffMill$Result;[LCutoffMill$Result;)V -/
def m_X3_makeStates (σ : Sg) (i0 : Nat) (i1 : Nat) : Option Sg := m_X3_makeStates_2 i0 i1 1000 σ 0
set_option maxHeartbeats 4000000 in
set_option maxRecDepth 100000 in
theorem c_X3_makeStates (l : Launch) {Γ : GG} (hJ : IJ Γ) (σ : Sg) (i0 : Nat) (hi0 : i0 < 2) (i1 : Nat) (hi1 : i1 < 30) (σf : Sg) (rf : Unit) (h : m_X3_makeStates σ i0 i1 = some σf) : CV l yX3_makeStates (wy yX3_makeStates cX3_makeStates 4 none) { frames := 3, cells := 0, slots := 0, locals := 71 } Γ σ [.ref (adr Γ (kW i0 + 5)), .ref (adr Γ (kR i1)), .ref (adr Γ (kW i0 + 3))] σf rf := by
  refine met_of (by decide +kernel) hJ (Nat.le_of_ble_eq_true rfl) (fun p e s m below meth c ls X hH hl => ?_)
  have hl : lv_has ls 4 [(0, .ref (adr Γ (kW i0 + 5))), (1, .ref (adr Γ (kR i1))), (2, .ref (adr Γ (kW i0 + 3)))] := hl
  have hx := X.1.1
  have hb := X.1.2.1
  rw [m_X3_makeStates] at h
  refine lv_iconst (v := 0) hx hb dX3_makeStates_0 (by decide) ?_
  refine lv_istore_n (lv' := [(3, .int 0), (0, .ref (adr Γ (kW i0 + 5))), (1, .ref (adr Γ (kR i1))), (2, .ref (adr Γ (kW i0 + 3)))]) hx hb dX3_makeStates_1 rfl hl (by decide) rfl (fun ls hl => ?_)
  exact b_X3_makeStates_2 (rf := ()) X i0 hi0 i1 hi1  1000 σ 0 h _ _ _ hH (lv_sub hl [1, 2, 3, 0] rfl)
def m_X9_renew_90 (i0 : Nat) (x1 : Int32)  : Nat → Sg → Int32 → Nat → Int32 → Option (Sg × Int32)
  | 0, _, _, _, _ => none
  | n + 1, σ, x3, r4, x5 => if 8 ≤ x5 then chk (zb x3) (some (σ, x3)) else bnd (m_X6_has σ x1 x5) (fun r121 => if r121 = 0 then m_X9_renew_90 i0 x1 n σ x3 r4 (x5 + 1) else chk (inb x5 (lenP 0 i0)) (st (wP σ 0 i0 x5.toNatClampNeg r4) (fun σ124 => m_X9_renew_90 i0 x1 n σ124 x3 r4 (x5 + 1))))
set_option maxHeartbeats 4000000 in
set_option maxRecDepth 100000 in
theorem b_X9_renew_90 {p : Program} {l : Launch} {e : Env} {s : State} {m : MethodId} {args : Array Value} {below : List Frame} {meth : Method} {c : Code} {Γ : GG} (X : MB Γ p s m args meth c cX9_renew 6 RX9 (some .boolean)) {σf : Sg} {rf : Int32} (i0 : Nat) (hi0 : i0 < 2) (x1 : Int32) : ∀ (n : Nat), (∀ (σ : Sg) (x3 : Int32) (r4 : Nat) (hr4 : r4 < 30) (x5 : Int32), (m_X9_renew_90 i0 x1 n) σ x3 r4 x5 = some (σf, rf) → ∀ (H : Heap) (locs : List Loc) (ls : Array Slot), HW (IA Γ) Γ σ s.heap H locs → lv_has ls 6 [(0, .ref (adr Γ (kW i0))), (1, .int x1), (3, .int x3), (4, .ref (adr Γ (kR r4))), (5, .int x5)] → W p l e ({ frames := 4, cells := 0, slots := 0, locals := 104 } : Room) s m args below meth c H locs 0 0 (QI Γ σf rf below args s) (F0 m 90 ls [])) := by
  have hx := X.1.1
  have hb := X.1.2.1
  intro n
  induction n with
  | zero => intro σ x3 r4 hr4 x5 h; rw [m_X9_renew_90] at h; cases h
  | succ n ih =>
    intro σ x3 r4 hr4 x5 h H locs ls hH hl
    rw [m_X9_renew_90] at h
    refine lv_iload hx hb dX9_renew_90 (lv_at hl 4 rfl) ?_
    refine lv_bipush (v := 8) hx hb dX9_renew_92 (by decide) ?_
    refine lv_icmp_ge (tgt := 121) hx hb dX9_renew_94 (by decide) (fun hc => ?_) (fun hc => ?_)
    · replace h := if_t h hc
      refine lv_iload_n hx hb dX9_renew_121 rfl (lv_at hl 2 rfl) ?_
      obtain ⟨hg119, h⟩ := chk_some h
      cases h
      exact e_int X hH (zb_nar hg119) dX9_renew_122
    · replace h := if_f h hc
      refine lv_iload_n hx hb dX9_renew_97 rfl (lv_at hl 1 rfl) ?_
      refine lv_iload hx hb dX9_renew_98 (lv_at hl 4 rfl) ?_
      obtain ⟨r121, hq120, h⟩ := bnd_some h
      refine r_callSI X.1 hl hH (As := [.int x1, .int x5]) (rest := []) (c_X6_has l X.1.2.2.2.2.2.2.1 σ x1 x5 _ hq120) (cw_S X.1 2 mw_204 mw_299 mw_203 mw_20 rfl rfl (by decide +kernel) ⟨Nat.le_of_ble_eq_true rfl, Nat.le_of_ble_eq_true rfl⟩) rfl rfl (Nat.le_of_ble_eq_true rfl) dX9_renew_100 ⟨Nat.zero_le _, Nat.zero_le _⟩ (fun H locs hH => ?_)
      refine lv_if_eq (tgt := 115) hx hb dX9_renew_103 (by decide) (fun hc => ?_) (fun hc => ?_)
      · replace h := if_t h hc
        refine lv_iinc (v := x5 + 1) (lv' := [(5, .int (x5 + 1)), (0, .ref (adr Γ (kW i0))), (1, .int x1), (3, .int x3), (4, .ref (adr Γ (kR r4)))]) hx hb dX9_renew_115 hl (k := 4) rfl rfl (by decide) rfl (fun ls hl => ?_)
        refine lv_goto (tgt := 90) hx hb dX9_renew_118 (by decide) ?_
        exact ih σ x3 r4 hr4 (x5 + 1) h _ _ _ hH (lv_sub hl [1, 2, 3, 4, 0] rfl)
      · replace h := if_f h hc
        refine lv_aload_n hx hb dX9_renew_106 rfl (lv_at hl 0 rfl) ?_
        refine r_get X.1 hH (kW_lt hi0) (dW0 _ hi0) rfl inlX9 5 (by decide) (v := .ref (adr Γ (kW i0 + 3))) rfl mw_63 dX9_renew_107 ?_
        refine lv_iload hx hb dX9_renew_110 (lv_at hl 4 rfl) ?_
        refine lv_aload hx hb dX9_renew_112 (lv_at hl 3 rfl) ?_
        obtain ⟨hg123, h⟩ := chk_some h
        obtain ⟨σ124, e125, h⟩ := st_some h
        refine r_ast X.1 hH (lW _ hi0 3 (by decide)) (dW3 _ hi0) hg123 hr4 dX9_renew_114 (fun H locs hH => ?_)
        replace hH : HW (IA Γ) Γ σ124 s.heap H locs := by rw [e125]; exact hH
        refine lv_iinc (v := x5 + 1) (lv' := [(5, .int (x5 + 1)), (0, .ref (adr Γ (kW i0))), (1, .int x1), (3, .int x3), (4, .ref (adr Γ (kR r4)))]) hx hb dX9_renew_115 hl (k := 4) rfl rfl (by decide) rfl (fun ls hl => ?_)
        refine lv_goto (tgt := 90) hx hb dX9_renew_118 (by decide) ?_
        exact ih σ124 x3 r4 hr4 (x5 + 1) h _ _ _ hH (lv_sub hl [1, 2, 3, 4, 0] rfl)
def m_X9_renew_16 (i0 : Nat) (x1 : Int32)  (σ : Sg) (s0 : Int32) (x2 : Int32) : Option (Sg × Int32) := if s0 = 0 then bnd (m_X9_freeResult σ i0) (fun r105 => chk (decide (r105 < 30)) (bnd (m_X5_begin σ r105 x1 i0) (fun σ109 => bnd (m_X9_noteAnswers σ109 i0 r105) (fun σ112 => bnd (m_X3_makeStates σ112 i0 r105) (fun σ115 => bnd (m_X7_put σ115 i0 r105) (fun σ118 => m_X9_renew_90 i0 x1 1000 σ118 s0 r105 0)))))) else chk (inb x2 (lenP 1 i0)) (bnd (σ.2.2 1 i0 x2.toNatClampNeg) (fun r127 => chk (decide (r127 < 30)) (bnd (m_X7_makeNewest σ i0 x2) (fun σ131 => m_X9_renew_90 i0 x1 1000 σ131 s0 r127 0))))
set_option maxHeartbeats 4000000 in
set_option maxRecDepth 100000 in
theorem b_X9_renew_16 {p : Program} {l : Launch} {e : Env} {s : State} {m : MethodId} {args : Array Value} {below : List Frame} {meth : Method} {c : Code} {Γ : GG} (X : MB Γ p s m args meth c cX9_renew 6 RX9 (some .boolean)) {σf : Sg} {rf : Int32} (i0 : Nat) (hi0 : i0 < 2) (x1 : Int32) : (∀ (σ : Sg) (s0 : Int32) (x2 : Int32), (m_X9_renew_16 i0 x1) σ s0 x2 = some (σf, rf) → ∀ (H : Heap) (locs : List Loc) (ls : Array Slot), HW (IA Γ) Γ σ s.heap H locs → lv_has ls 6 [(0, .ref (adr Γ (kW i0))), (1, .int x1), (2, .int x2)] → W p l e ({ frames := 4, cells := 0, slots := 0, locals := 104 } : Room) s m args below meth c H locs 0 0 (QI Γ σf rf below args s) (F0 m 16 ls [.int s0])) := by
  have hx := X.1.1
  have hb := X.1.2.1
  intro σ s0 x2 h H locs ls hH hl
  rw [m_X9_renew_16] at h
  refine lv_istore_n (lv' := [(3, .int s0), (0, .ref (adr Γ (kW i0))), (1, .int x1), (2, .int x2)]) hx hb dX9_renew_16 rfl hl (by decide) rfl (fun ls hl => ?_)
  refine lv_iload_n hx hb dX9_renew_17 rfl (lv_at hl 0 rfl) ?_
  refine lv_if_eq (tgt := 43) hx hb dX9_renew_18 (by decide) (fun hc => ?_) (fun hc => ?_)
  · replace h := if_t h hc
    refine lv_aload_n hx hb dX9_renew_43 rfl (lv_at hl 1 rfl) ?_
    obtain ⟨r105, hq104, h⟩ := bnd_some h
    obtain ⟨hr105, h⟩ := chk_some h
    replace hr105 := of_decide_eq_true hr105
    refine r_callVR X.1 hl hH (As := []) (rest := []) (c_X9_freeResult l X.1.2.2.2.2.2.2.1 σ i0 hi0 _ hq104) (cw_V X.1 0 mw_413 mw_410 mw_411 mw_412 mw_24 rfl rfl (by decide +kernel) ⟨Nat.le_of_ble_eq_true rfl, Nat.le_of_ble_eq_true rfl⟩) (r_recv X.1 hH (kW_lt hi0) (dW0 _ hi0) rfl) rfl rfl (Nat.le_of_ble_eq_true rfl) dX9_renew_44 ⟨Nat.zero_le _, Nat.zero_le _⟩ (fun H locs hH => ?_)
    refine lv_astore (lv' := [(4, .ref (adr Γ (kR r105))), (3, .int s0), (0, .ref (adr Γ (kW i0))), (1, .int x1), (2, .int x2)]) hx hb dX9_renew_47 hl (by decide) rfl (fun ls hl => ?_)
    refine lv_aload hx hb dX9_renew_49 (lv_at hl 0 rfl) ?_
    refine lv_iload_n hx hb dX9_renew_51 rfl (lv_at hl 3 rfl) ?_
    refine lv_aload_n hx hb dX9_renew_52 rfl (lv_at hl 2 rfl) ?_
    refine r_get X.1 hH (kW_lt hi0) (dW0 _ hi0) rfl inlX9 0 (by decide) (v := .ref (adr Γ (kT i0))) rfl mw_64 dX9_renew_53 ?_
    obtain ⟨σ109, hq107, h⟩ := bnd_some h
    refine r_callVV X.1 hl hH (r := ()) (As := [.int x1, .ref (adr Γ (kT i0))]) (rest := []) (c_X5_begin l X.1.2.2.2.2.2.2.1 σ r105 hr105 x1 i0 (by omega) _ () hq107) (cw_V X.1 2 mw_425 mw_422 mw_423 mw_424 mw_72 rfl rfl (by decide +kernel) ⟨Nat.le_of_ble_eq_true rfl, Nat.le_of_ble_eq_true rfl⟩) (r_recv X.1 hH (kR_lt hr105) (dR0 _ hr105) rfl) rfl rfl (Nat.le_of_ble_eq_true rfl) dX9_renew_56 ⟨Nat.zero_le _, Nat.zero_le _⟩ (fun H locs hH => ?_)
    refine lv_aload_n hx hb dX9_renew_59 rfl (lv_at hl 2 rfl) ?_
    refine lv_aload hx hb dX9_renew_60 (lv_at hl 0 rfl) ?_
    obtain ⟨σ112, hq110, h⟩ := bnd_some h
    refine r_callVV X.1 hl hH (r := ()) (As := [.ref (adr Γ (kR r105))]) (rest := []) (c_X9_noteAnswers l X.1.2.2.2.2.2.2.1 σ109 i0 hi0 r105 hr105 _ () hq110) (cw_V X.1 1 mw_435 mw_432 mw_433 mw_434 mw_24 rfl rfl (by decide +kernel) ⟨Nat.le_of_ble_eq_true rfl, Nat.le_of_ble_eq_true rfl⟩) (r_recv X.1 hH (kW_lt hi0) (dW0 _ hi0) rfl) rfl rfl (Nat.le_of_ble_eq_true rfl) dX9_renew_62 ⟨Nat.zero_le _, Nat.zero_le _⟩ (fun H locs hH => ?_)
    refine lv_aload_n hx hb dX9_renew_65 rfl (lv_at hl 2 rfl) ?_
    refine r_get X.1 hH (kW_lt hi0) (dW0 _ hi0) rfl inlX9 3 (by decide) (v := .ref (adr Γ (kW i0 + 5))) rfl mw_78 dX9_renew_66 ?_
    refine lv_aload hx hb dX9_renew_69 (lv_at hl 0 rfl) ?_
    refine lv_aload_n hx hb dX9_renew_71 rfl (lv_at hl 2 rfl) ?_
    refine r_get X.1 hH (kW_lt hi0) (dW0 _ hi0) rfl inlX9 5 (by decide) (v := .ref (adr Γ (kW i0 + 3))) rfl mw_63 dX9_renew_72 ?_
    obtain ⟨σ115, hq113, h⟩ := bnd_some h
    refine r_callVV X.1 hl hH (r := ()) (As := [.ref (adr Γ (kR r105)), .ref (adr Γ (kW i0 + 3))]) (rest := []) (c_X3_makeStates l X.1.2.2.2.2.2.2.1 σ112 i0 hi0 r105 hr105 _ () hq113) (cw_V X.1 2 mw_443 mw_440 mw_441 mw_442 mw_77 rfl rfl (by decide +kernel) ⟨Nat.le_of_ble_eq_true rfl, Nat.le_of_ble_eq_true rfl⟩) (r_recv X.1 hH (lW _ hi0 5 (by decide)) (dW5 _ hi0) rfl) rfl rfl (Nat.le_of_ble_eq_true rfl) dX9_renew_75 ⟨Nat.zero_le _, Nat.zero_le _⟩ (fun H locs hH => ?_)
    refine lv_aload_n hx hb dX9_renew_78 rfl (lv_at hl 2 rfl) ?_
    refine r_get X.1 hH (kW_lt hi0) (dW0 _ hi0) rfl inlX9 4 (by decide) (v := .ref (adr Γ (kW i0 + 1))) rfl mw_70 dX9_renew_79 ?_
    refine lv_aload hx hb dX9_renew_82 (lv_at hl 0 rfl) ?_
    obtain ⟨σ118, hq116, h⟩ := bnd_some h
    refine r_callVV X.1 hl hH (r := ()) (As := [.ref (adr Γ (kR r105))]) (rest := []) (c_X7_put l X.1.2.2.2.2.2.2.1 σ115 i0 hi0 r105 hr105 _ () hq116) (cw_V X.1 1 mw_409 mw_520 mw_407 mw_408 mw_69 rfl rfl (by decide +kernel) ⟨Nat.le_of_ble_eq_true rfl, Nat.le_of_ble_eq_true rfl⟩) (r_recv X.1 hH (lW _ hi0 1 (by decide)) (dW1 _ hi0) rfl) rfl rfl (Nat.le_of_ble_eq_true rfl) dX9_renew_84 ⟨Nat.zero_le _, Nat.zero_le _⟩ (fun H locs hH => ?_)
    refine lv_iconst (v := 0) hx hb dX9_renew_87 (by decide) ?_
    refine lv_istore (lv' := [(5, .int 0), (4, .ref (adr Γ (kR r105))), (3, .int s0), (0, .ref (adr Γ (kW i0))), (1, .int x1), (2, .int x2)]) hx hb dX9_renew_88 hl (by decide) rfl (fun ls hl => ?_)
    exact b_X9_renew_90 X i0 hi0 x1  1000 σ118 s0 r105 hr105 0 h _ _ _ hH (lv_sub hl [3, 4, 2, 1, 0] rfl)
  · replace h := if_f h hc
    refine lv_aload_n hx hb dX9_renew_21 rfl (lv_at hl 1 rfl) ?_
    refine r_get X.1 hH (kW_lt hi0) (dW0 _ hi0) rfl inlX9 4 (by decide) (v := .ref (adr Γ (kW i0 + 1))) rfl mw_70 dX9_renew_22 ?_
    refine r_get X.1 hH (lW _ hi0 1 (by decide)) (dW1 _ hi0) rfl inlX7 0 (by decide) (v := .ref (adr Γ (kW i0 + 2))) rfl mw_391 dX9_renew_25 ?_
    refine lv_iload_n hx hb dX9_renew_28 rfl (lv_at hl 3 rfl) ?_
    obtain ⟨hg126, h⟩ := chk_some h
    obtain ⟨r127, he128, h⟩ := bnd_some h
    obtain ⟨hr127, h⟩ := chk_some h
    replace hr127 := of_decide_eq_true hr127
    refine r_ald X.1 hH (lW _ hi0 2 (by decide)) (dW2 _ hi0) hg126 he128 dX9_renew_29 ?_
    refine lv_astore (lv' := [(4, .ref (adr Γ (kR r127))), (3, .int s0), (0, .ref (adr Γ (kW i0))), (1, .int x1), (2, .int x2)]) hx hb dX9_renew_30 hl (by decide) rfl (fun ls hl => ?_)
    refine lv_aload_n hx hb dX9_renew_32 rfl (lv_at hl 2 rfl) ?_
    refine r_get X.1 hH (kW_lt hi0) (dW0 _ hi0) rfl inlX9 4 (by decide) (v := .ref (adr Γ (kW i0 + 1))) rfl mw_70 dX9_renew_33 ?_
    refine lv_iload_n hx hb dX9_renew_36 rfl (lv_at hl 4 rfl) ?_
    obtain ⟨σ131, hq129, h⟩ := bnd_some h
    refine r_callVV X.1 hl hH (r := ()) (As := [.int x2]) (rest := []) (c_X7_makeNewest l X.1.2.2.2.2.2.2.1 σ i0 hi0 x2 _ () hq129) (cw_V X.1 1 mw_400 mw_397 mw_398 mw_399 mw_69 rfl rfl (by decide +kernel) ⟨Nat.le_of_ble_eq_true rfl, Nat.le_of_ble_eq_true rfl⟩) (r_recv X.1 hH (lW _ hi0 1 (by decide)) (dW1 _ hi0) rfl) rfl rfl (Nat.le_of_ble_eq_true rfl) dX9_renew_37 ⟨Nat.zero_le _, Nat.zero_le _⟩ (fun H locs hH => ?_)
    refine lv_goto (tgt := 87) hx hb dX9_renew_40 (by decide) ?_
    refine lv_iconst (v := 0) hx hb dX9_renew_87 (by decide) ?_
    refine lv_istore (lv' := [(5, .int 0), (4, .ref (adr Γ (kR r127))), (3, .int s0), (0, .ref (adr Γ (kW i0))), (1, .int x1), (2, .int x2)]) hx hb dX9_renew_88 hl (by decide) rfl (fun ls hl => ?_)
    exact b_X9_renew_90 X i0 hi0 x1  1000 σ131 s0 r127 hr127 0 h _ _ _ hH (lv_sub hl [3, 4, 2, 1, 0] rfl)
/-- CutoffMill$Works.renew(I)Z -/
def m_X9_renew (σ : Sg) (i0 : Nat) (x1 : Int32) : Option (Sg × Int32) := bnd (m_X9_placeInStore σ i0 x1) (fun r102 => if r102 = ((-1)) then m_X9_renew_16 i0 x1 σ 0 r102 else m_X9_renew_16 i0 x1 σ 1 r102)
set_option maxHeartbeats 4000000 in
set_option maxRecDepth 100000 in
theorem c_X9_renew (l : Launch) {Γ : GG} (hJ : IJ Γ) (σ : Sg) (i0 : Nat) (hi0 : i0 < 2) (x1 : Int32) (σf : Sg) (rf : Int32) (h : m_X9_renew σ i0 x1 = some (σf, rf)) : CI l yX9_renew (wy yX9_renew cX9_renew 6 (some .boolean)) { frames := 4, cells := 0, slots := 0, locals := 104 } Γ σ [.ref (adr Γ (kW i0)), .int x1] σf rf := by
  refine met_of (by decide +kernel) hJ (Nat.le_of_ble_eq_true rfl) (fun p e s m below meth c ls X hH hl => ?_)
  have hl : lv_has ls 6 [(0, .ref (adr Γ (kW i0))), (1, .int x1)] := hl
  have hx := X.1.1
  have hb := X.1.2.1
  rw [m_X9_renew] at h
  refine lv_aload_n hx hb dX9_renew_0 rfl (lv_at hl 0 rfl) ?_
  refine lv_iload_n hx hb dX9_renew_1 rfl (lv_at hl 1 rfl) ?_
  obtain ⟨r102, hq101, h⟩ := bnd_some h
  refine r_callVI X.1 hl hH (As := [.int x1]) (rest := []) (c_X9_placeInStore l X.1.2.2.2.2.2.2.1 σ i0 hi0 x1 _ hq101) (cw_V X.1 1 mw_395 mw_392 mw_393 mw_394 mw_24 rfl rfl (by decide +kernel) ⟨Nat.le_of_ble_eq_true rfl, Nat.le_of_ble_eq_true rfl⟩) (r_recv X.1 hH (kW_lt hi0) (dW0 _ hi0) rfl) rfl rfl (Nat.le_of_ble_eq_true rfl) dX9_renew_2 ⟨Nat.zero_le _, Nat.zero_le _⟩ (fun H locs hH => ?_)
  refine lv_istore_n (lv' := [(2, .int r102), (0, .ref (adr Γ (kW i0))), (1, .int x1)]) hx hb dX9_renew_5 rfl hl (by decide) rfl (fun ls hl => ?_)
  refine lv_iload_n hx hb dX9_renew_6 rfl (lv_at hl 0 rfl) ?_
  refine lv_iconst (v := (-1)) hx hb dX9_renew_7 (by decide) ?_
  refine lv_icmp_eq (tgt := 15) hx hb dX9_renew_8 (by decide) (fun hc => ?_) (fun hc => ?_)
  · replace h := if_t h hc
    refine lv_iconst (v := 0) hx hb dX9_renew_15 (by decide) ?_
    exact b_X9_renew_16 X i0 hi0 x1  σ 0 r102 h _ _ _ hH (lv_sub hl [1, 2, 0] rfl)
  · replace h := if_f h hc
    refine lv_iconst (v := 1) hx hb dX9_renew_11 (by decide) ?_
    refine lv_goto (tgt := 16) hx hb dX9_renew_12 (by decide) ?_
    exact b_X9_renew_16 X i0 hi0 x1  σ 1 r102 h _ _ _ hH (lv_sub hl [1, 2, 0] rfl)
def m_X10_countRenewal_46 (x1 : Int32) (x2 : Int32)  : Nat → Sg → Nat → Int32 → Option Sg
  | 0, _, _, _ => none
  | n + 1, σ, ca3, x4 => if 8 ≤ x4 then some σ else bnd (m_X6_has σ x1 x4) (fun r104 => if r104 = 0 then m_X10_countRenewal_46 x1 x2 n σ ca3 (x4 + 1) else chk (inb x4 8) (chk (inb x4 8) (st (wI σ ca3 0 x4.toNatClampNeg ((σ.1 ca3 0 x4.toNatClampNeg) + (1 : Int32))) (fun σ108 => m_X10_countRenewal_46 x1 x2 n σ108 ca3 (x4 + 1)))))
set_option maxHeartbeats 4000000 in
set_option maxRecDepth 100000 in
theorem b_X10_countRenewal_46 {p : Program} {l : Launch} {e : Env} {s : State} {m : MethodId} {args : Array Value} {below : List Frame} {meth : Method} {c : Code} {Γ : GG} (X : MB Γ p s m args meth c cX10_countRenewal 5 RX10 none) {σf : Sg} {rf : Unit} (x1 : Int32) (x2 : Int32) : ∀ (n : Nat), (∀ (σ : Sg) (ca3 : Nat) (ka3 : Nat) (hka3 : ka3 < 440) (hda3 : desc ka3 = (0, ca3, 0, 8)) (x4 : Int32), (m_X10_countRenewal_46 x1 x2 n) σ ca3 x4 = some σf → ∀ (H : Heap) (locs : List Loc) (ls : Array Slot), HW (IA Γ) Γ σ s.heap H locs → lv_has ls 5 [(1, .int x1), (3, .ref (adr Γ ka3)), (4, .int x4)] → W p l e ({ frames := 1, cells := 0, slots := 0, locals := 21 } : Room) s m args below meth c H locs 0 0 (QV Γ σf rf below args s) (F0 m 46 ls [])) := by
  have hx := X.1.1
  have hb := X.1.2.1
  intro n
  induction n with
  | zero => intro σ ca3 ka3 hka3 hda3 x4 h; rw [m_X10_countRenewal_46] at h; cases h
  | succ n ih =>
    intro σ ca3 ka3 hka3 hda3 x4 h H locs ls hH hl
    rw [m_X10_countRenewal_46] at h
    refine lv_iload hx hb dX10_countRenewal_46 (lv_at hl 2 rfl) ?_
    refine lv_bipush (v := 8) hx hb dX10_countRenewal_48 (by decide) ?_
    refine lv_icmp_ge (tgt := 76) hx hb dX10_countRenewal_50 (by decide) (fun hc => ?_) (fun hc => ?_)
    · replace h := if_t h hc
      cases h
      exact e_void (v := rf) X hH dX10_countRenewal_76
    · replace h := if_f h hc
      refine lv_iload_n hx hb dX10_countRenewal_53 rfl (lv_at hl 0 rfl) ?_
      refine lv_iload hx hb dX10_countRenewal_54 (lv_at hl 2 rfl) ?_
      obtain ⟨r104, hq103, h⟩ := bnd_some h
      refine r_callSI X.1 hl hH (As := [.int x1, .int x4]) (rest := []) (c_X6_has l X.1.2.2.2.2.2.2.1 σ x1 x4 _ hq103) (cw_S X.1 2 mw_204 mw_581 mw_203 mw_20 rfl rfl (by decide +kernel) ⟨Nat.le_of_ble_eq_true rfl, Nat.le_of_ble_eq_true rfl⟩) rfl rfl (Nat.le_of_ble_eq_true rfl) dX10_countRenewal_56 ⟨Nat.zero_le _, Nat.zero_le _⟩ (fun H locs hH => ?_)
      refine lv_if_eq (tgt := 70) hx hb dX10_countRenewal_59 (by decide) (fun hc => ?_) (fun hc => ?_)
      · replace h := if_t h hc
        refine lv_iinc (v := x4 + 1) (lv' := [(4, .int (x4 + 1)), (1, .int x1), (3, .ref (adr Γ ka3))]) hx hb dX10_countRenewal_70 hl (k := 2) rfl rfl (by decide) rfl (fun ls hl => ?_)
        refine lv_goto (tgt := 46) hx hb dX10_countRenewal_73 (by decide) ?_
        exact ih σ ca3 ka3 hka3 hda3 (x4 + 1) h _ _ _ hH (lv_sub hl [1, 2, 0] rfl)
      · replace h := if_f h hc
        refine lv_aload_n hx hb dX10_countRenewal_62 rfl (lv_at hl 1 rfl) ?_
        refine lv_iload hx hb dX10_countRenewal_63 (lv_at hl 2 rfl) ?_
        refine lv_dup2_11 hx hb dX10_countRenewal_65 rfl rfl ?_
        obtain ⟨hg106, h⟩ := chk_some h
        refine r_ild X.1 hH hka3 hda3 hg106 dX10_countRenewal_66 ?_
        refine lv_iconst (v := 1) hx hb dX10_countRenewal_67 (by decide) ?_
        refine lv_iadd hx hb dX10_countRenewal_68 ?_
        obtain ⟨hg107, h⟩ := chk_some h
        obtain ⟨σ108, e109, h⟩ := st_some h
        refine r_ist X.1 hH hka3 hda3 hg107 dX10_countRenewal_69 (fun H locs hH => ?_)
        replace hH : HW (IA Γ) Γ σ108 s.heap H locs := by rw [e109]; exact hH
        refine lv_iinc (v := x4 + 1) (lv' := [(4, .int (x4 + 1)), (1, .int x1), (3, .ref (adr Γ ka3))]) hx hb dX10_countRenewal_70 hl (k := 2) rfl rfl (by decide) rfl (fun ls hl => ?_)
        refine lv_goto (tgt := 46) hx hb dX10_countRenewal_73 (by decide) ?_
        exact ih σ108 ca3 ka3 hka3 hda3 (x4 + 1) h _ _ _ hH (lv_sub hl [1, 2, 0] rfl)
def m_X10_countRenewal_27 (x1 : Int32) (x2 : Int32)  (σ : Sg) : Option Sg := if x2 = 0 then m_X10_countRenewal_46 x1 x2 1000 σ 1 0 else m_X10_countRenewal_46 x1 x2 1000 σ 2 0
set_option maxHeartbeats 4000000 in
set_option maxRecDepth 100000 in
theorem b_X10_countRenewal_27 {p : Program} {l : Launch} {e : Env} {s : State} {m : MethodId} {args : Array Value} {below : List Frame} {meth : Method} {c : Code} {Γ : GG} (X : MB Γ p s m args meth c cX10_countRenewal 5 RX10 none) {σf : Sg} {rf : Unit} (x1 : Int32) (x2 : Int32) : (∀ (σ : Sg), (m_X10_countRenewal_27 x1 x2) σ = some σf → ∀ (H : Heap) (locs : List Loc) (ls : Array Slot), HW (IA Γ) Γ σ s.heap H locs → lv_has ls 5 [(0, .ref (adr Γ 0)), (1, .int x1), (2, .int x2)] → W p l e ({ frames := 1, cells := 0, slots := 0, locals := 21 } : Room) s m args below meth c H locs 0 0 (QV Γ σf rf below args s) (F0 m 27 ls [])) := by
  have hx := X.1.1
  have hb := X.1.2.1
  intro σ h H locs ls hH hl
  rw [m_X10_countRenewal_27] at h
  refine lv_iload_n hx hb dX10_countRenewal_27 rfl (lv_at hl 2 rfl) ?_
  refine lv_if_eq (tgt := 38) hx hb dX10_countRenewal_28 (by decide) (fun hc => ?_) (fun hc => ?_)
  · replace h := if_t h hc
    refine lv_aload_n hx hb dX10_countRenewal_38 rfl (lv_at hl 0 rfl) ?_
    refine r_get X.1 hH (by decide) rfl rfl inlX10 6 (by decide) (v := .ref (adr Γ 2)) rfl mw_28 dX10_countRenewal_39 ?_
    refine lv_astore_n (lv' := [(3, .ref (adr Γ 2)), (0, .ref (adr Γ 0)), (1, .int x1), (2, .int x2)]) hx hb dX10_countRenewal_42 rfl hl (by decide) rfl (fun ls hl => ?_)
    refine lv_iconst (v := 0) hx hb dX10_countRenewal_43 (by decide) ?_
    refine lv_istore (lv' := [(4, .int 0), (3, .ref (adr Γ 2)), (0, .ref (adr Γ 0)), (1, .int x1), (2, .int x2)]) hx hb dX10_countRenewal_44 hl (by decide) rfl (fun ls hl => ?_)
    exact b_X10_countRenewal_46 (rf := ()) X x1 x2  1000 σ 1 2 (by decide) rfl 0 h _ _ _ hH (lv_sub hl [3, 1, 0] rfl)
  · replace h := if_f h hc
    refine lv_aload_n hx hb dX10_countRenewal_31 rfl (lv_at hl 0 rfl) ?_
    refine r_get X.1 hH (by decide) rfl rfl inlX10 7 (by decide) (v := .ref (adr Γ 3)) rfl mw_29 dX10_countRenewal_32 ?_
    refine lv_goto (tgt := 42) hx hb dX10_countRenewal_35 (by decide) ?_
    refine lv_astore_n (lv' := [(3, .ref (adr Γ 3)), (0, .ref (adr Γ 0)), (1, .int x1), (2, .int x2)]) hx hb dX10_countRenewal_42 rfl hl (by decide) rfl (fun ls hl => ?_)
    refine lv_iconst (v := 0) hx hb dX10_countRenewal_43 (by decide) ?_
    refine lv_istore (lv' := [(4, .int 0), (3, .ref (adr Γ 3)), (0, .ref (adr Γ 0)), (1, .int x1), (2, .int x2)]) hx hb dX10_countRenewal_44 hl (by decide) rfl (fun ls hl => ?_)
    exact b_X10_countRenewal_46 (rf := ()) X x1 x2  1000 σ 2 3 (by decide) rfl 0 h _ _ _ hH (lv_sub hl [3, 1, 0] rfl)
/-- CutoffMill.countRenewal(IZ)V -/
def m_X10_countRenewal (σ : Sg) (x1 : Int32) (x2 : Int32) : Option Sg := if x2 = 0 then st (wI σ 3 0 0 ((σ.1 3 0 0) + (1 : Int32))) (fun σ101 => m_X10_countRenewal_27 x1 x2 σ101) else st (wI σ 4 0 0 ((σ.1 4 0 0) + (1 : Int32))) (fun σ110 => m_X10_countRenewal_27 x1 x2 σ110)
set_option maxHeartbeats 4000000 in
set_option maxRecDepth 100000 in
theorem c_X10_countRenewal (l : Launch) {Γ : GG} (hJ : IJ Γ) (σ : Sg) (x1 : Int32) (x2 : Int32) (σf : Sg) (rf : Unit) (h : m_X10_countRenewal σ x1 x2 = some σf) : CV l yX10_countRenewal (wy yX10_countRenewal cX10_countRenewal 5 none) { frames := 1, cells := 0, slots := 0, locals := 21 } Γ σ [.ref (adr Γ 0), .int x1, .int x2] σf rf := by
  refine met_of (by decide +kernel) hJ (Nat.le_of_ble_eq_true rfl) (fun p e s m below meth c ls X hH hl => ?_)
  have hl : lv_has ls 5 [(0, .ref (adr Γ 0)), (1, .int x1), (2, .int x2)] := hl
  have hx := X.1.1
  have hb := X.1.2.1
  rw [m_X10_countRenewal] at h
  refine lv_iload_n hx hb dX10_countRenewal_0 rfl (lv_at hl 2 rfl) ?_
  refine lv_if_eq (tgt := 17) hx hb dX10_countRenewal_1 (by decide) (fun hc => ?_) (fun hc => ?_)
  · replace h := if_t h hc
    refine lv_aload_n hx hb dX10_countRenewal_17 rfl (lv_at hl 0 rfl) ?_
    refine lv_dup hx hb dX10_countRenewal_18 rfl ?_
    refine r_get X.1 hH (by decide) rfl rfl inlX10 8 (by decide) (v := .int (σ.1 3 0 0)) rfl mw_541 dX10_countRenewal_19 ?_
    refine lv_iconst (v := 1) hx hb dX10_countRenewal_22 (by decide) ?_
    refine lv_iadd hx hb dX10_countRenewal_23 ?_
    obtain ⟨σ101, e102, h⟩ := st_some h
    refine r_putI X.1 hH (co := 3) (by decide) rfl rfl rfl inlX10 tyX10 tyX10_ok nmX10 (by decide) (Nat.le_of_ble_eq_true rfl) rfl (by decide +kernel) mw_541 dX10_countRenewal_24 (fun H locs hH => ?_)
    replace hH : HW (IA Γ) Γ σ101 s.heap H locs := by rw [e102]; exact hH
    exact b_X10_countRenewal_27 (rf := ()) X x1 x2  σ101  h _ _ _ hH (lv_sub hl [0, 1, 2] rfl)
  · replace h := if_f h hc
    refine lv_aload_n hx hb dX10_countRenewal_4 rfl (lv_at hl 0 rfl) ?_
    refine lv_dup hx hb dX10_countRenewal_5 rfl ?_
    refine r_get X.1 hH (by decide) rfl rfl inlX10 9 (by decide) (v := .int (σ.1 4 0 0)) rfl mw_542 dX10_countRenewal_6 ?_
    refine lv_iconst (v := 1) hx hb dX10_countRenewal_9 (by decide) ?_
    refine lv_iadd hx hb dX10_countRenewal_10 ?_
    obtain ⟨σ110, e111, h⟩ := st_some h
    refine r_putI X.1 hH (co := 4) (by decide) rfl rfl rfl inlX10 tyX10 tyX10_ok nmX10 (by decide) (Nat.le_of_ble_eq_true rfl) rfl (by decide +kernel) mw_542 dX10_countRenewal_11 (fun H locs hH => ?_)
    replace hH : HW (IA Γ) Γ σ110 s.heap H locs := by rw [e111]; exact hH
    refine lv_goto (tgt := 27) hx hb dX10_countRenewal_14 (by decide) ?_
    exact b_X10_countRenewal_27 (rf := ()) X x1 x2  σ110  h _ _ _ hH (lv_sub hl [0, 1, 2] rfl)
def m_X10_build_21 (x1 : Int32)  : Nat → Sg → Int32 → Int32 → Option (Sg × Int32)
  | 0, _, _, _ => none
  | n + 1, σ, x2, x3 => if (σ.1 18 0 0) ≤ x3 then some (σ, x2) else if x1 ≤ x2 then some (σ, x2) else chk (inb x3 8) (bnd (m_X9_reasonOf σ 0 (σ.1 17 0 x3.toNatClampNeg)) (fun r108 => if r108 = 0 then m_X10_build_21 x1 n σ x2 (x3 + 1) else bnd2 (m_X9_renew σ 0 (σ.1 17 0 x3.toNatClampNeg)) (fun σ112 r111 => bnd (m_X10_countRenewal σ112 (σ.1 17 0 x3.toNatClampNeg) r111) (fun σ115 => m_X10_build_21 x1 n σ115 (x2 + 1) (x3 + 1)))))
set_option maxHeartbeats 4000000 in
set_option maxRecDepth 100000 in
theorem b_X10_build_21 {p : Program} {l : Launch} {e : Env} {s : State} {m : MethodId} {args : Array Value} {below : List Frame} {meth : Method} {c : Code} {Γ : GG} (X : MB Γ p s m args meth c cX10_build 5 RX10 (some .int)) {σf : Sg} {rf : Int32} (x1 : Int32) : ∀ (n : Nat), (∀ (σ : Sg) (x2 : Int32) (x3 : Int32), (m_X10_build_21 x1 n) σ x2 x3 = some (σf, rf) → ∀ (H : Heap) (locs : List Loc) (ls : Array Slot), HW (IA Γ) Γ σ s.heap H locs → lv_has ls 5 [(0, .ref (adr Γ 0)), (1, .int x1), (2, .int x2), (3, .int x3)] → W p l e ({ frames := 5, cells := 0, slots := 0, locals := 129 } : Room) s m args below meth c H locs 0 0 (QI Γ σf rf below args s) (F0 m 21 ls [])) := by
  have hx := X.1.1
  have hb := X.1.2.1
  intro n
  induction n with
  | zero => intro σ x2 x3 h; rw [m_X10_build_21] at h; cases h
  | succ n ih =>
    intro σ x2 x3 h H locs ls hH hl
    rw [m_X10_build_21] at h
    refine lv_iload_n hx hb dX10_build_21 rfl (lv_at hl 3 rfl) ?_
    refine lv_aload_n hx hb dX10_build_22 rfl (lv_at hl 0 rfl) ?_
    refine r_get X.1 hH (by decide) rfl rfl inlX10 2 (by decide) (v := .ref (adr Γ 12)) rfl mw_21 dX10_build_23 ?_
    refine r_get X.1 hH (by decide) rfl rfl inlX6 6 (by decide) (v := .int (σ.1 18 0 0)) rfl mw_538 dX10_build_26 ?_
    refine lv_icmp_ge (tgt := 84) hx hb dX10_build_29 (by decide) (fun hc => ?_) (fun hc => ?_)
    · replace h := if_t h hc
      refine lv_iload_n hx hb dX10_build_84 rfl (lv_at hl 2 rfl) ?_
      cases h
      exact e_int X hH rfl dX10_build_85
    · replace h := if_f h hc
      refine lv_iload_n hx hb dX10_build_32 rfl (lv_at hl 2 rfl) ?_
      refine lv_iload_n hx hb dX10_build_33 rfl (lv_at hl 1 rfl) ?_
      refine lv_icmp_ge (tgt := 84) hx hb dX10_build_34 (by decide) (fun hc => ?_) (fun hc => ?_)
      · replace h := if_t h hc
        refine lv_iload_n hx hb dX10_build_84 rfl (lv_at hl 2 rfl) ?_
        cases h
        exact e_int X hH rfl dX10_build_85
      · replace h := if_f h hc
        refine lv_aload_n hx hb dX10_build_37 rfl (lv_at hl 0 rfl) ?_
        refine r_get X.1 hH (by decide) rfl rfl inlX10 2 (by decide) (v := .ref (adr Γ 12)) rfl mw_21 dX10_build_38 ?_
        refine r_get X.1 hH (by decide) rfl rfl inlX6 5 (by decide) (v := .ref (adr Γ 17)) rfl mw_575 dX10_build_41 ?_
        refine lv_iload_n hx hb dX10_build_44 rfl (lv_at hl 3 rfl) ?_
        obtain ⟨hg106, h⟩ := chk_some h
        refine r_ild X.1 hH (by decide) rfl hg106 dX10_build_45 ?_
        refine lv_istore (lv' := [(4, .int (σ.1 17 0 x3.toNatClampNeg)), (0, .ref (adr Γ 0)), (1, .int x1), (2, .int x2), (3, .int x3)]) hx hb dX10_build_46 hl (by decide) rfl (fun ls hl => ?_)
        refine lv_aload_n hx hb dX10_build_48 rfl (lv_at hl 1 rfl) ?_
        refine r_get X.1 hH (by decide) rfl rfl inlX10 3 (by decide) (v := .ref (adr Γ (kW 0))) rfl mw_25 dX10_build_49 ?_
        refine lv_iload hx hb dX10_build_52 (lv_at hl 0 rfl) ?_
        obtain ⟨r108, hq107, h⟩ := bnd_some h
        refine r_callVI X.1 hl hH (As := [.int (σ.1 17 0 x3.toNatClampNeg)]) (rest := []) (c_X9_reasonOf l X.1.2.2.2.2.2.2.1 σ 0 (by omega) (σ.1 17 0 x3.toNatClampNeg) _ hq107) (cw_V X.1 1 mw_293 mw_290 mw_291 mw_292 mw_24 rfl rfl (by decide +kernel) ⟨Nat.le_of_ble_eq_true rfl, Nat.le_of_ble_eq_true rfl⟩) (r_recv X.1 hH (kW_lt (by omega)) (dW0 _ (by omega)) rfl) rfl rfl (Nat.le_of_ble_eq_true rfl) dX10_build_54 ⟨Nat.zero_le _, Nat.zero_le _⟩ (fun H locs hH => ?_)
        refine lv_if_eq (tgt := 78) hx hb dX10_build_57 (by decide) (fun hc => ?_) (fun hc => ?_)
        · replace h := if_t h hc
          refine lv_iinc (v := x3 + 1) (lv' := [(3, .int (x3 + 1)), (4, .int (σ.1 17 0 x3.toNatClampNeg)), (0, .ref (adr Γ 0)), (1, .int x1), (2, .int x2)]) hx hb dX10_build_78 hl (k := 4) rfl rfl (by decide) rfl (fun ls hl => ?_)
          refine lv_goto (tgt := 21) hx hb dX10_build_81 (by decide) ?_
          exact ih σ x2 (x3 + 1) h _ _ _ hH (lv_sub hl [2, 3, 4, 0] rfl)
        · replace h := if_f h hc
          refine lv_aload_n hx hb dX10_build_60 rfl (lv_at hl 1 rfl) ?_
          refine lv_iload hx hb dX10_build_61 (lv_at hl 0 rfl) ?_
          refine lv_aload_n hx hb dX10_build_63 rfl (lv_at hl 1 rfl) ?_
          refine r_get X.1 hH (by decide) rfl rfl inlX10 3 (by decide) (v := .ref (adr Γ (kW 0))) rfl mw_25 dX10_build_64 ?_
          refine lv_iload hx hb dX10_build_67 (lv_at hl 0 rfl) ?_
          obtain ⟨σ112, r111, hq110, h⟩ := bnd2_some h
          refine r_callVI X.1 hl hH (As := [.int (σ.1 17 0 x3.toNatClampNeg)]) (rest := [.int (σ.1 17 0 x3.toNatClampNeg), .ref (adr Γ 0)]) (c_X9_renew l X.1.2.2.2.2.2.2.1 σ 0 (by omega) (σ.1 17 0 x3.toNatClampNeg) _ _ hq110) (cw_V X.1 1 mw_390 mw_576 mw_388 mw_389 mw_24 rfl rfl (by decide +kernel) ⟨Nat.le_of_ble_eq_true rfl, Nat.le_of_ble_eq_true rfl⟩) (r_recv X.1 hH (kW_lt (by omega)) (dW0 _ (by omega)) rfl) rfl rfl (Nat.le_of_ble_eq_true rfl) dX10_build_69 ⟨Nat.zero_le _, Nat.zero_le _⟩ (fun H locs hH => ?_)
          obtain ⟨σ115, hq113, h⟩ := bnd_some h
          refine r_callVV X.1 hl hH (r := ()) (As := [.int (σ.1 17 0 x3.toNatClampNeg), .int r111]) (rest := []) (c_X10_countRenewal l X.1.2.2.2.2.2.2.1 σ112 (σ.1 17 0 x3.toNatClampNeg) r111 _ () hq113) (cw_V X.1 2 mw_580 mw_577 mw_578 mw_579 mw_2 rfl rfl (by decide +kernel) ⟨Nat.le_of_ble_eq_true rfl, Nat.le_of_ble_eq_true rfl⟩) (r_recv X.1 hH (by decide) rfl rfl) rfl rfl (Nat.le_of_ble_eq_true rfl) dX10_build_72 ⟨Nat.zero_le _, Nat.zero_le _⟩ (fun H locs hH => ?_)
          refine lv_iinc (v := x2 + 1) (lv' := [(2, .int (x2 + 1)), (4, .int (σ.1 17 0 x3.toNatClampNeg)), (0, .ref (adr Γ 0)), (1, .int x1), (3, .int x3)]) hx hb dX10_build_75 hl (k := 3) rfl rfl (by decide) rfl (fun ls hl => ?_)
          refine lv_iinc (v := x3 + 1) (lv' := [(3, .int (x3 + 1)), (2, .int (x2 + 1)), (4, .int (σ.1 17 0 x3.toNatClampNeg)), (0, .ref (adr Γ 0)), (1, .int x1)]) hx hb dX10_build_78 hl (k := 4) rfl rfl (by decide) rfl (fun ls hl => ?_)
          refine lv_goto (tgt := 21) hx hb dX10_build_81 (by decide) ?_
          exact ih σ115 (x2 + 1) (x3 + 1) h _ _ _ hH (lv_sub hl [3, 4, 1, 0] rfl)
/-- CutoffMill.build(I)I -/
def m_X10_build (σ : Sg) (x1 : Int32) : Option (Sg × Int32) := bnd (m_X10_checkWithin σ x1 1 8) (fun _ => st (wI σ 5 0 0 ((σ.1 5 0 0) + (1 : Int32))) (fun σ104 => m_X10_build_21 x1 1000 σ104 0 0))
set_option maxHeartbeats 4000000 in
set_option maxRecDepth 100000 in
theorem c_X10_build (l : Launch) {Γ : GG} (hJ : IJ Γ) (σ : Sg) (x1 : Int32) (σf : Sg) (rf : Int32) (h : m_X10_build σ x1 = some (σf, rf)) : CI l yX10_build (wy yX10_build cX10_build 5 (some .int)) { frames := 5, cells := 0, slots := 0, locals := 129 } Γ σ [.ref (adr Γ 0), .int x1] σf rf := by
  refine met_of (by decide +kernel) hJ (Nat.le_of_ble_eq_true rfl) (fun p e s m below meth c ls X hH hl => ?_)
  have hl : lv_has ls 5 [(0, .ref (adr Γ 0)), (1, .int x1)] := hl
  have hx := X.1.1
  have hb := X.1.2.1
  rw [m_X10_build] at h
  refine lv_iload_n hx hb dX10_build_0 rfl (lv_at hl 1 rfl) ?_
  refine lv_iconst (v := 1) hx hb dX10_build_1 (by decide) ?_
  refine lv_bipush (v := 8) hx hb dX10_build_2 (by decide) ?_
  obtain ⟨_, hq101, h⟩ := bnd_some h
  refine r_callSV X.1 hl hH (r := ()) (As := [.int x1, .int 1, .int 8]) (rest := []) (c_X10_checkWithin l X.1.2.2.2.2.2.2.1 σ x1 1 8 () hq101) (cw_S X.1 3 mw_268 mw_266 mw_267 mw_2 rfl rfl (by decide +kernel) ⟨Nat.le_of_ble_eq_true rfl, Nat.le_of_ble_eq_true rfl⟩) rfl rfl (Nat.le_of_ble_eq_true rfl) dX10_build_4 ⟨Nat.zero_le _, Nat.zero_le _⟩ (fun H locs hH => ?_)
  refine lv_aload_n hx hb dX10_build_7 rfl (lv_at hl 0 rfl) ?_
  refine lv_dup hx hb dX10_build_8 rfl ?_
  refine r_get X.1 hH (by decide) rfl rfl inlX10 10 (by decide) (v := .int (σ.1 5 0 0)) rfl mw_543 dX10_build_9 ?_
  refine lv_iconst (v := 1) hx hb dX10_build_12 (by decide) ?_
  refine lv_iadd hx hb dX10_build_13 ?_
  obtain ⟨σ104, e105, h⟩ := st_some h
  refine r_putI X.1 hH (co := 5) (by decide) rfl rfl rfl inlX10 tyX10 tyX10_ok nmX10 (by decide) (Nat.le_of_ble_eq_true rfl) rfl (by decide +kernel) mw_543 dX10_build_14 (fun H locs hH => ?_)
  replace hH : HW (IA Γ) Γ σ104 s.heap H locs := by rw [e105]; exact hH
  refine lv_iconst (v := 0) hx hb dX10_build_17 (by decide) ?_
  refine lv_istore_n (lv' := [(2, .int 0), (0, .ref (adr Γ 0)), (1, .int x1)]) hx hb dX10_build_18 rfl hl (by decide) rfl (fun ls hl => ?_)
  refine lv_iconst (v := 0) hx hb dX10_build_19 (by decide) ?_
  refine lv_istore_n (lv' := [(3, .int 0), (2, .int 0), (0, .ref (adr Γ 0)), (1, .int x1)]) hx hb dX10_build_20 rfl hl (by decide) rfl (fun ls hl => ?_)
  exact b_X10_build_21 X x1  1000 σ104 0 0 h _ _ _ hH (lv_sub hl [2, 3, 1, 0] rfl)
