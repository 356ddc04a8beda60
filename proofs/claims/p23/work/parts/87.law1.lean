/-! THE LAW: its own walk. Laid by wip/p23/mklaw.py -/
/-- what the law's walk knows of its method and of the script -/
def LB (Γ : GG) (p : Program) (s : State) (m : MethodId) (c : Code) (b L : Nat) (xs : Nat → Int32) : Prop := MX (fun q => s.heap.size ≤ q) Γ p s m #[Value.ref b] c code 10 RL ∧ va_X b L xs s s.heap ∧ b < s.heap.size ∧ L ≤ 260
section LAWS
variable {p : Program} {l : Launch} {e : Env} {s : State} {m : MethodId} {below : List Frame} {meth : Method} {c : Code} {b L : Nat} {xs : Nat → Int32} {Γ : GG} {Q : State → Prop} {cells slots : Nat} {H : Heap} {locs : List Loc} {pc : Nat} {ls : Array Slot} {rest st0 : List Value} {σ : Sg} {wo : va_W} {lv : List (Nat × Value)}
theorem no_wo (Γ : GG) (H : Heap) : va_P Γ.1 vwCl [] H := fun k q h => by simp at h
theorem l_cell (B : LB Γ p s m c b L xs) (hl : lv_has ls 10 lv) (hH : HW (fun q => s.heap.size ≤ q) Γ σ s.heap H locs) (hO : va_P Γ.1 vwCl wo H) {k : Int32} (hk : ¬ k < 0) (hdg : decode code pc = .ok (.invokestatic 12, 3)) (hst : st0 = .int k :: .ref b :: rest) (hW : (rest.map fun v => v.category).sum ≤ 8) (hf : cells ≤ 2000 ∧ slots ≤ 100000)
    (kk : ∀ r H1 locs1, HW (fun q => s.heap.size ≤ q) Γ σ s.heap H1 locs1 → va_P Γ.1 vwCl wo H1 → W p l e room_1 s m #[Value.ref b] below meth c H1 locs1 cells slots Q (F0 m (pc + 3) ls (.int r :: rest))) : W p l e room_1 s m #[Value.ref b] below meth c H locs cells slots Q (F0 m pc ls st0) := by
  obtain ⟨X, hX, hbl, hL⟩ := B
  have hbH : H[b]? = s.heap[b]? := hH.2.2.1 b hbl (Nat.not_le.mpr hbl)
  refine va_calli (va_runS (As := [.ref b, .int k]) (rest := rest) (fix_of X) (c_cell l (b := b) (L := L) (xs := xs) hk hL) (cw_S X 2 (List.mem_of_getElem? (i := 125) (by decide +kernel)) (List.mem_of_getElem? (i := 122) (by decide +kernel)) (List.mem_of_getElem? (i := 123) (by decide +kernel)) (List.mem_of_getElem? (i := 124) (by decide +kernel)) rfl rfl (by decide +kernel) ⟨Nat.le_of_ble_eq_true rfl, Nat.le_of_ble_eq_true rfl⟩) ⟨fun a U gg mk q => ⟨q.1, va_X.moved (u := U) (U := U.calling gg mk a) (Vm.Alike.refl U.vm) q.2.1, q.2.2⟩, fun U hU hW' => ⟨rfl, by rw [hU]; exact (hX.kept hbH).moved hW'.alike, by rw [hU]; exact Nat.lt_of_lt_of_le hbl hH.2.1⟩⟩ rfl rfl hl.1 hst (lv_room hW) hdg ⟨Nat.le_trans hf.1 (Nat.le_of_ble_eq_true rfl), Nat.le_trans hf.2 (Nat.le_of_ble_eq_true rfl)⟩) hH.2 (fun q _ h => h.elim) (fun q h => h.elim) (fun r u t H1 locs1 ht _ _ _ _ hk1 hS => ?_)
  exact kk r H1 locs1 ⟨hH.1.kept (fun k q hq => hk1 q.1 (hH.1 k q hq).lt (fun z => z)), hS⟩ (hO.kept (fun k q hq => hk1 q.1 (hO k q hq).lt (fun z => z)))
set_option maxHeartbeats 4000000 in
set_option maxRecDepth 100000 in
theorem law_mods (B : LB Γ p s m c b L xs) {mc : Nat} (h1 : 1 ≤ mc) (h7 : mc ≤ 8) (hf : cells ≤ 2000 ∧ slots ≤ 100000) (kk : ∀ (σ : Sg) (H : Heap) (locs : List Loc) (ls : Array Slot), LZ σ mc → HW (fun q => s.heap.size ≤ q) Γ σ s.heap H locs → lv_has ls 10 [(3, .int (nI mc)), (2, .int (nI mc)), (0, .ref b), (1, .ref (adr Γ 0))] → W p l e room_1 s m #[Value.ref b] below meth c H locs cells slots Q (F0 m 44 ls [])) : ∀ d k, k + d = mc → ∀ (σ : Sg) (H : Heap) (locs : List Loc) (ls : Array Slot), ((k = 0 ∧ σ = sg0) ∨ LZ σ k) → HW (fun q => s.heap.size ≤ q) Γ σ s.heap H locs → lv_has ls 10 [(3, .int (nI k)), (2, .int (nI mc)), (0, .ref b), (1, .ref (adr Γ 0))] → W p l e room_1 s m #[Value.ref b] below meth c H locs cells slots Q (F0 m 23 ls []) := by
  obtain ⟨X, hX, hbl, hL⟩ := id B
  have hx := X.1
  have hb := X.2.1
  have hJ : IJ Γ := X.2.2.2.2.2.2.1
  have hA : AW (fun q => s.heap.size ≤ q) Γ [] := AW.nil _ _
  intro d
  induction d with
  | zero =>
    intro k hk σ H locs ls hz hH hl
    have hk : k = mc := by omega
    subst hk
    have hz : LZ σ k := by
      rcases hz with ⟨z, _⟩ | z
      · omega
      · exact z
    refine lv_iload_n hx hb dL_law_23 rfl (lv_at hl 0 rfl) ?_
    refine lv_iload_n hx hb dL_law_24 rfl (lv_at hl 1 rfl) ?_
    refine lv_icmp_ge (tgt := 44) hx hb dL_law_25 (by decide) (fun _ => ?_) (fun hc => absurd (show nI k ≤ nI k by rw [le_n (by omega) (by omega)]; omega) hc)
    exact kk σ _ _ _ hz hH hl
  | succ d ih =>
    intro k hk σ H locs ls hz hH hl
    obtain ⟨⟨σ1, r⟩, he, hz1, hr⟩ : ok (fun q => LZ q.1 (k + 1) ∧ q.2 = nI k) (m_X10_module σ) := by
      rcases hz with ⟨z1, z2⟩ | z
      · rw [z1, z2]; exact s_first
      · exact z.module (by omega)
    have hr : r = nI k := hr
    subst hr
    have hO := no_wo Γ H
    refine lv_iload_n hx hb dL_law_23 rfl (lv_at hl 0 rfl) ?_
    refine lv_iload_n hx hb dL_law_24 rfl (lv_at hl 1 rfl) ?_
    refine lv_icmp_ge (tgt := 44) hx hb dL_law_25 (by decide) (fun hc => absurd hc (by rw [le_n (by omega) (by omega)]; omega)) (fun _ => ?_)
    refine lv_aload_n hx hb dL_law_28 rfl (lv_at hl 3 rfl) ?_
    refine l_callVI X hl hH hO hA (As := []) (rest := []) (c_X10_module l hJ σ σ1 (nI k) he) (cw_V X 0 (List.mem_of_getElem? (i := 134) (by decide +kernel)) (List.mem_of_getElem? (i := 131) (by decide +kernel)) (List.mem_of_getElem? (i := 132) (by decide +kernel)) (List.mem_of_getElem? (i := 133) (by decide +kernel)) (List.mem_of_getElem? (i := 2) (by decide +kernel)) rfl rfl (by decide +kernel) ⟨Nat.le_of_ble_eq_true rfl, Nat.le_of_ble_eq_true rfl⟩) (r_recv X hH (k := 0) (by decide) rfl rfl) rfl rfl (Nat.le_of_ble_eq_true rfl) dL_law_29 ⟨Nat.le_trans hf.1 (Nat.le_of_ble_eq_true rfl), Nat.le_trans hf.2 (Nat.le_of_ble_eq_true rfl)⟩ (fun H locs hH hO => ?_)
    refine lv_iload_n hx hb dL_law_32 rfl (lv_at hl 0 rfl) ?_
    refine lv_icmp_eq (tgt := 38) hx hb dL_law_33 (by decide) (fun _ => ?_) (fun hc => absurd rfl hc)
    refine lv_iinc (v := (nI (k + 1))) (lv' := [(3, .int (nI (k + 1))), (2, .int (nI mc)), (0, .ref b), (1, .ref (adr Γ 0))]) hx hb dL_law_38 hl (k := 0) rfl (by rw [← nI_1]; rfl) (by decide) rfl (fun ls hl => ?_)
    refine lv_goto (tgt := 23) hx hb dL_law_41 (by decide) ?_
    exact ih (k + 1) (by omega) σ1 _ _ _ (Or.inr hz1) hH hl
set_option maxHeartbeats 4000000 in
set_option maxRecDepth 100000 in
theorem law_edits (B : LB Γ p s m c b L xs) {mc : Nat} (h1 : 1 ≤ mc) (h7 : mc ≤ 8) (hf : cells ≤ 2000 ∧ slots ≤ 100000) (kk : ∀ (σ : Sg) (H : Heap) (locs : List Loc) (ls : Array Slot), LZ σ mc → HW (fun q => s.heap.size ≤ q) Γ σ s.heap H locs → lv_has ls 10 [(3, .int (nI 20)), (2, .int (nI mc)), (0, .ref b), (1, .ref (adr Γ 0))] → W p l e room_1 s m #[Value.ref b] below meth c H locs cells slots Q (F0 m 98 ls [])) : ∀ d k, k + d = 20 → ∀ (σ : Sg) (H : Heap) (locs : List Loc) (ls : Array Slot), LZ σ mc → HW (fun q => s.heap.size ≤ q) Γ σ s.heap H locs → lv_has ls 10 [(3, .int (nI k)), (2, .int (nI mc)), (0, .ref b), (1, .ref (adr Γ 0))] → W p l e room_1 s m #[Value.ref b] below meth c H locs cells slots Q (F0 m 46 ls []) := by
  obtain ⟨X, hX, hbl, hL⟩ := id B
  have hx := X.1
  have hb := X.2.1
  have hJ : IJ Γ := X.2.2.2.2.2.2.1
  have hA : AW (fun q => s.heap.size ≤ q) Γ [] := AW.nil _ _
  intro d
  induction d with
  | zero =>
    intro k hk σ H locs ls hz hH hl
    have hk : k = 20 := by omega
    subst hk
    refine lv_iload_n hx hb dL_law_46 rfl (lv_at hl 0 rfl) ?_
    refine lv_bipush (v := 20) hx hb dL_law_47 (by decide) ?_
    refine lv_icmp_ge (tgt := 98) hx hb dL_law_49 (by decide) (fun _ => ?_) (fun hc => absurd (show (20 : Int32) ≤ nI 20 by decide) hc)
    exact kk σ _ _ _ hz hH hl
  | succ d ih =>
    intro k hk σ H locs ls hz hH hl
    have hO := no_wo Γ H
    refine lv_iload_n hx hb dL_law_46 rfl (lv_at hl 0 rfl) ?_
    refine lv_bipush (v := 20) hx hb dL_law_47 (by decide) ?_
    refine lv_icmp_ge (tgt := 98) hx hb dL_law_49 (by decide) (fun hc => absurd (show nI 20 ≤ nI k from hc) (by rw [le_n (by omega) (by omega)]; omega)) (fun _ => ?_)
    refine lv_aload_n hx hb dL_law_52 rfl (lv_at hl 3 rfl) ?_
    refine lv_iload_n hx hb dL_law_53 rfl (lv_at hl 1 rfl) ?_
    refine lv_aload_n hx hb dL_law_54 rfl (lv_at hl 2 rfl) ?_
    refine lv_iload_n hx hb dL_law_55 rfl (lv_at hl 0 rfl) ?_
    refine lv_bipush (v := 16) hx hb dL_law_56 (by decide) ?_
    refine lv_irem hx hb dL_law_58 (by decide) ?_
    refine l_cell B hl hH hO (k := ((nI k) - (nI k) / (16 : Int32) * (16 : Int32))) (rest := [.int (nI mc), .ref (adr Γ 0)]) (by rw [rem16 (by omega), ltz (by omega)]; exact fun z => z) dL_law_59 rfl (Nat.le_of_ble_eq_true rfl) hf (fun r1 H locs hH hO => ?_)
    refine lv_bipush (v := 29) hx hb dL_law_62 (by decide) ?_
    refine lv_iload_n hx hb dL_law_64 rfl (lv_at hl 0 rfl) ?_
    refine lv_imul hx hb dL_law_65 ?_
    refine lv_iadd hx hb dL_law_66 ?_
    refine lv_topi (fun x _ => ?_)
    refine lv_aload_n hx hb dL_law_67 rfl (lv_at hl 2 rfl) ?_
    refine lv_iconst (v := 5) hx hb dL_law_68 (by decide) ?_
    refine lv_iload_n hx hb dL_law_69 rfl (lv_at hl 0 rfl) ?_
    refine lv_imul hx hb dL_law_70 ?_
    refine lv_iconst (v := 2) hx hb dL_law_71 (by decide) ?_
    refine lv_iadd hx hb dL_law_72 ?_
    refine lv_bipush (v := 16) hx hb dL_law_73 (by decide) ?_
    refine lv_irem hx hb dL_law_75 (by decide) ?_
    refine l_cell B hl hH hO (k := ((((5 : Int32) * (nI k)) + (2 : Int32)) - (((5 : Int32) * (nI k)) + (2 : Int32)) / (16 : Int32) * (16 : Int32))) (rest := [.int x, .int (nI mc), .ref (adr Γ 0)]) (by rw [show (5 : Int32) * nI k + 2 = nI (5 * k + 2) by rw [show (5 : Int32) = nI 5 from rfl, pk_mul]; exact nI_add _ _, rem16 (by omega), ltz (by omega)]; exact fun z => z) dL_law_76 rfl (Nat.le_of_ble_eq_true rfl) hf (fun r2 H locs hH hO => ?_)
    refine lv_bipush (v := 17) hx hb dL_law_79 (by decide) ?_
    refine lv_iload_n hx hb dL_law_81 rfl (lv_at hl 0 rfl) ?_
    refine lv_imul hx hb dL_law_82 ?_
    refine lv_iadd hx hb dL_law_83 ?_
    refine lv_topi (fun y _ => ?_)
    obtain ⟨σ1, he, hz1, _⟩ := lz_edit hz h1 x y
    refine l_callSI X hl hH hO hA (As := [.ref (adr Γ 0), .int (nI mc), .int x, .int y]) (rest := []) (c_L_edit l hJ σ (nI mc) x y σ1 1 he) (cw_S X 4 (List.mem_of_getElem? (i := 251) (by decide +kernel)) (List.mem_of_getElem? (i := 249) (by decide +kernel)) (List.mem_of_getElem? (i := 250) (by decide +kernel)) (List.mem_of_getElem? (i := 124) (by decide +kernel)) rfl rfl (by decide +kernel) ⟨Nat.le_of_ble_eq_true rfl, Nat.le_of_ble_eq_true rfl⟩) rfl rfl (Nat.le_of_ble_eq_true rfl) dL_law_84 ⟨Nat.le_trans hf.1 (Nat.le_of_ble_eq_true rfl), Nat.le_trans hf.2 (Nat.le_of_ble_eq_true rfl)⟩ (fun H locs hH hO => ?_)
    refine lv_if_ne (tgt := 92) hx hb dL_law_87 (by decide) (fun _ => ?_) (fun hc => absurd hc (by decide))
    refine lv_iinc (v := (nI (k + 1))) (lv' := [(3, .int (nI (k + 1))), (2, .int (nI mc)), (0, .ref b), (1, .ref (adr Γ 0))]) hx hb dL_law_92 hl (k := 0) rfl (by rw [← nI_1]; rfl) (by decide) rfl (fun ls hl => ?_)
    refine lv_goto (tgt := 46) hx hb dL_law_95 (by decide) ?_
    exact ih (k + 1) (by omega) σ1 _ _ _ hz1 hH hl
end LAWS
