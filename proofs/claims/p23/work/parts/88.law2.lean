/-! THE LAW: a round. Laid by wip/p23/mklaw2.py -/
theorem lz_round1 {σ : Sg} {mc : Nat} (hz : LZ σ mc) : ∃ (D a3 a4 : Nat) (σ1 σ2 σ3 : Sg), D ≤ 8 ∧ m_X10_wouldBuild σ = some (σ1, nI D) ∧ m_X10_rounds σ1 1 = some (σ2, nI D) ∧ m_X10_rounds σ2 3 = some (σ3, nI a3) ∧ a3 ≤ D ∧ m_X10_many σ3 4 = some (nI a4) ∧ a4 ≤ 8 ∧ (a4 = 0 ↔ D = 0) ∧ LZ σ3 mc ∧ dueS σ3 = D := by
  obtain ⟨σ1, e1, z1, m1⟩ := lz_would hz
  obtain ⟨σ2, e2, z2, m2⟩ := lz_rounds z1 (k := 1) (by omega) (by omega)
  obtain ⟨σ3, e3, z3, m3⟩ := lz_rounds z2 (k := 3) (by omega) (by omega)
  obtain ⟨a4, h4, e4, i4⟩ := lz_many4 z3
  have d1 : dueS σ1 = dueS σ := m1.due hz.1.1
  have d2 : dueS σ2 = dueS σ1 := m2.due z1.1.1
  have d3 : dueS σ3 = dueS σ2 := m3.due z2.1.1
  rw [rnd_one z1.1.1, d1] at e2
  have r3 := rnd_le z2.1.1 3
  refine ⟨dueS σ, rndS σ2 3, a4, σ1, σ2, σ3, due_le hz.1.1, e1, e2, e3, by omega, e4, h4, ?_, z3, by omega⟩
  rw [i4, d3, d2, d1]
theorem lz_round2 {σ : Sg} {mc D k : Nat} (hz : LZ σ mc) (hD : dueS σ = D) (h1 : 1 ≤ k) (h8 : k ≤ 8) : ∃ (t : Nat) (σ1 σ2 : Sg), t ≤ D ∧ m_X10_build σ (nI k) = some (σ1, nI t) ∧ σ1.1 3 0 0 + σ1.1 4 0 0 = σ.1 3 0 0 + σ.1 4 0 0 + nI t ∧ m_X10_wouldBuild σ1 = some (σ2, nI (D - t)) ∧ LZ σ2 mc ∧ dueS σ2 = D - t := by
  obtain ⟨σ1, t, e1, z1, n1, d1, _⟩ := lz_build hz h1 h8
  obtain ⟨σ2, e2, z2, m2⟩ := lz_would z1
  have d2 : dueS σ2 = dueS σ1 := m2.due z1.1.1
  have e : dueS σ1 = D - t := by omega
  rw [e] at e2
  exact ⟨t, σ1, σ2, by omega, e1, n1, e2, z2, by omega⟩
theorem lz_round3 {σ : Sg} {mc E : Nat} (hz : LZ σ mc) (hE : dueS σ = E) : ∃ (a : Nat) (σ1 σ2 σ3 σ4 : Sg), m_X10_wouldBuild σ = some (σ1, nI E) ∧ m_X10_build σ1 8 = some (σ2, nI E) ∧ m_X10_many σ2 4 = some 0 ∧ m_X10_wouldBuild σ2 = some (σ3, 0) ∧ m_X10_isAsNew σ3 = some 1 ∧ m_X10_many σ3 6 = some (nI a) ∧ a ≤ 10 ∧ m_L_isBuilt σ3 (nI mc) = some (σ4, 1) ∧ LZ σ4 mc := by
  obtain ⟨σ1, e1, z1, m1⟩ := lz_would hz
  have d1 : dueS σ1 = dueS σ := m1.due hz.1.1
  obtain ⟨σ2, t, e2, z2, _, _, h2⟩ := lz_build z1 (k := 8) (by omega) (by omega)
  obtain ⟨d2, ht⟩ := h2 rfl
  obtain ⟨k, _, e4, i4⟩ := lz_many4 z2
  have hk : k = 0 := i4.mpr d2
  obtain ⟨σ3, e3, z3, m3⟩ := lz_would z2
  have d3 : dueS σ3 = dueS σ2 := m3.due z2.1.1
  obtain ⟨a, ha, e6⟩ := lz_many6 z3
  obtain ⟨σ4, e7, z4⟩ := lz_isBuilt z3
  rw [hE] at e1
  rw [ht, d1, hE] at e2
  rw [hk] at e4
  rw [d2] at e3
  exact ⟨a, σ1, σ2, σ3, σ4, e1, e2, e4, e3, lz_asNew z3 (by omega), e6, ha, e7, z4⟩
section LAWS
variable {p : Program} {l : Launch} {e : Env} {s : State} {m : MethodId} {below : List Frame} {meth : Method} {c : Code} {b L : Nat} {xs : Nat → Int32} {Γ : GG} {Q : State → Prop} {cells slots : Nat}
set_option maxHeartbeats 4000000 in
set_option maxRecDepth 100000 in
theorem law_fill (B : LB Γ p s m c b L xs) {mc r wa : Nat} {V f0 : Nat → Int32} (h1 : 1 ≤ mc) (h7 : mc ≤ 8) (hr5 : r < 5) (hf : cells ≤ 2000 ∧ slots ≤ 100000) (hA0 : AW (fun q => s.heap.size ≤ q) Γ (woR Γ wa (16 * mc) f0)) (kk : ∀ (σ : Sg) (f : Nat → Int32) (H : Heap) (locs : List Loc) (ls : Array Slot), LZ σ mc → runV σ = V → (∀ j, j < 16 * mc → f j = V j) → HW (fun q => s.heap.size ≤ q) Γ σ s.heap H locs → va_P Γ.1 vwCl (woR Γ wa (16 * mc) f) H → lv_has ls 10 [(9, .int (nI (16 * mc))), (8, .ref wa), (3, .int (nI r)), (2, .int (nI mc)), (0, .ref b), (1, .ref (adr Γ 0))] → W p l e room_1 s m #[Value.ref b] below meth c H locs cells slots Q (F0 m 340 ls [])) : ∀ d k, k + d = (16 * mc) → ∀ (σ : Sg) (f : Nat → Int32) (H : Heap) (locs : List Loc) (ls : Array Slot), LZ σ mc → runV σ = V → (∀ j, j < k → f j = V j) → HW (fun q => s.heap.size ≤ q) Γ σ s.heap H locs → va_P Γ.1 vwCl (woR Γ wa (16 * mc) f) H → lv_has ls 10 [(9, .int (nI k)), (8, .ref wa), (3, .int (nI r)), (2, .int (nI mc)), (0, .ref b), (1, .ref (adr Γ 0))] → W p l e room_1 s m #[Value.ref b] below meth c H locs cells slots Q (F0 m 307 ls []) := by
  obtain ⟨X, hX, hbl, hL⟩ := id B
  have hx := X.1
  have hb := X.2.1
  have hJ : IJ Γ := X.2.2.2.2.2.2.1
  intro d
  induction d with
  | zero =>
    intro k hk σ f H locs ls hz hV hfV hH hO hl
    have hk : k = 16 * mc := by omega
    subst hk
    refine lv_iload hx hb dL_law_307 (lv_at hl 0 rfl) ?_
    refine lv_aload hx hb dL_law_309 (lv_at hl 1 rfl) ?_
    refine l_len X hO dL_law_311 ?_
    refine lv_icmp_ge (tgt := 340) hx hb dL_law_312 (by decide) (fun _ => ?_) (fun hc => absurd (show nI (16 * mc) ≤ nI (16 * mc) by rw [le_n (by omega) (by omega)]; omega) hc)
    exact kk σ f _ _ _ hz hV hfV hH hO hl
  | succ d ih =>
    intro k hk σ f H locs ls hz hV hfV hH hO hl
    have hA : AW (fun q => s.heap.size ≤ q) Γ (woR Γ wa (16 * mc) f) := hA0.fn
    refine lv_iload hx hb dL_law_307 (lv_at hl 0 rfl) ?_
    refine lv_aload hx hb dL_law_309 (lv_at hl 1 rfl) ?_
    refine l_len X hO dL_law_311 ?_
    refine lv_icmp_ge (tgt := 340) hx hb dL_law_312 (by decide) (fun hc => absurd hc (by rw [le_n (by omega) (by omega)]; omega)) (fun _ => ?_)
    refine lv_aload hx hb dL_law_315 (lv_at hl 1 rfl) ?_
    refine lv_iload hx hb dL_law_317 (lv_at hl 0 rfl) ?_
    refine lv_aload_n hx hb dL_law_319 rfl (lv_at hl 5 rfl) ?_
    refine lv_iload hx hb dL_law_320 (lv_at hl 0 rfl) ?_
    refine lv_bipush (v := 16) hx hb dL_law_322 (by decide) ?_
    refine lv_idiv hx hb dL_law_324 (by decide) ?_
    rw [show (((nI k) / (16 : Int32)) : Int32) = (nI (k / 16)) from dv16 (by omega)]
    refine lv_iload hx hb dL_law_325 (lv_at hl 0 rfl) ?_
    refine lv_bipush (v := 16) hx hb dL_law_327 (by decide) ?_
    refine lv_irem hx hb dL_law_329 (by decide) ?_
    rw [show (((nI k) - (nI k) / (16 : Int32) * (16 : Int32)) : Int32) = (nI (k % 16)) from rem16 (by omega)]
    obtain ⟨σ1, he, hz1, hV1⟩ := lz_run hz (show k < 16 * mc by omega)
    refine l_callVI X hl hH hO hA (As := [.int (nI (k / 16)), .int (nI (k % 16))]) (rest := [.int (nI k), .ref wa]) (c_X10_run l hJ σ (nI (k / 16)) (nI (k % 16)) σ1 (runV σ k) he) (cw_V X 2 (List.mem_of_getElem? (i := 613) (by decide +kernel)) (List.mem_of_getElem? (i := 610) (by decide +kernel)) (List.mem_of_getElem? (i := 611) (by decide +kernel)) (List.mem_of_getElem? (i := 612) (by decide +kernel)) (List.mem_of_getElem? (i := 2) (by decide +kernel)) rfl rfl (by decide +kernel) ⟨Nat.le_of_ble_eq_true rfl, Nat.le_of_ble_eq_true rfl⟩) (r_recv X hH (k := 0) (by decide) rfl rfl) rfl rfl (Nat.le_of_ble_eq_true rfl) dL_law_330 ⟨Nat.le_trans hf.1 (Nat.le_of_ble_eq_true rfl), Nat.le_trans hf.2 (Nat.le_of_ble_eq_true rfl)⟩ (fun H locs hH hO => ?_)
    refine l_ast X hH hO hA (inb_nI (by omega) (by omega)) dL_law_333 (fun H locs hH hO => ?_)
    refine lv_iinc (v := (nI (k + 1))) (lv' := [(9, .int (nI (k + 1))), (8, .ref wa), (3, .int (nI r)), (2, .int (nI mc)), (0, .ref b), (1, .ref (adr Γ 0))]) hx hb dL_law_334 hl (k := 0) rfl (by rw [← nI_1]; rfl) (by decide) rfl (fun ls hl => ?_)
    refine lv_goto (tgt := 307) hx hb dL_law_337 (by decide) ?_
    refine ih (k + 1) (by omega) σ1 _ _ _ _ hz1 (hV1.trans hV) (fun j hj => ?_) hH hO hl
    rw [cl_nI (by omega)]
    unfold upd
    by_cases h : j = k
    · rw [if_pos h, h, hV]
    · rw [if_neg h]; exact hfV j (by omega)
set_option maxHeartbeats 4000000 in
set_option maxRecDepth 100000 in
theorem law_three (B : LB Γ p s m c b L xs) {mc r wa : Nat} {V f0 : Nat → Int32} (h1 : 1 ≤ mc) (h7 : mc ≤ 8) (hr5 : r < 5) (hf : cells ≤ 2000 ∧ slots ≤ 100000) (hA0 : AW (fun q => s.heap.size ≤ q) Γ (woR Γ wa (16 * mc) f0)) (kk : ∀ (σ : Sg) (f : Nat → Int32) (H : Heap) (locs : List Loc) (ls : Array Slot), LZ σ mc → runV σ = V → (∀ j, j < 16 * mc → f j = V j) → HW (fun q => s.heap.size ≤ q) Γ σ s.heap H locs → va_P Γ.1 vwCl (woR Γ wa (16 * mc) f) H → lv_has ls 10 [(9, .int (nI 3)), (8, .ref wa), (3, .int (nI r)), (2, .int (nI mc)), (0, .ref b), (1, .ref (adr Γ 0))] → W p l e room_1 s m #[Value.ref b] below meth c H locs cells slots Q (F0 m 397 ls [])) : ∀ d k, k + d = 3 → ∀ (σ : Sg) (f : Nat → Int32) (H : Heap) (locs : List Loc) (ls : Array Slot), LZ σ mc → runV σ = V → (∀ j, j < 16 * mc → f j = V j) → HW (fun q => s.heap.size ≤ q) Γ σ s.heap H locs → va_P Γ.1 vwCl (woR Γ wa (16 * mc) f) H → lv_has ls 10 [(9, .int (nI k)), (8, .ref wa), (3, .int (nI r)), (2, .int (nI mc)), (0, .ref b), (1, .ref (adr Γ 0))] → W p l e room_1 s m #[Value.ref b] below meth c H locs cells slots Q (F0 m 343 ls []) := by
  obtain ⟨X, hX, hbl, hL⟩ := id B
  have hx := X.1
  have hb := X.2.1
  have hJ : IJ Γ := X.2.2.2.2.2.2.1
  intro d
  induction d with
  | zero =>
    intro k hk σ f H locs ls hz hV hfV hH hO hl
    have hk : k = 3 := by omega
    subst hk
    refine lv_iload hx hb dL_law_343 (lv_at hl 0 rfl) ?_
    refine lv_iconst (v := 3) hx hb dL_law_345 (by decide) ?_
    refine lv_icmp_ge (tgt := 397) hx hb dL_law_346 (by decide) (fun _ => ?_) (fun hc => absurd (show (3 : Int32) ≤ nI 3 by decide) hc)
    exact kk σ f _ _ _ hz hV hfV hH hO hl
  | succ d ih =>
    intro k hk σ f H locs ls hz hV hfV hH hO hl
    have hA : AW (fun q => s.heap.size ≤ q) Γ (woR Γ wa (16 * mc) f) := hA0.fn
    refine lv_iload hx hb dL_law_343 (lv_at hl 0 rfl) ?_
    refine lv_iconst (v := 3) hx hb dL_law_345 (by decide) ?_
    refine lv_icmp_ge (tgt := 397) hx hb dL_law_346 (by decide) (fun hc => absurd (show nI 3 ≤ nI k from hc) (by rw [le_n (by omega) (by omega)]; omega)) (fun _ => ?_)
    refine lv_aload_n hx hb dL_law_349 rfl (lv_at hl 5 rfl) ?_
    refine lv_iload_n hx hb dL_law_350 rfl (lv_at hl 3 rfl) ?_
    refine lv_aload_n hx hb dL_law_351 rfl (lv_at hl 4 rfl) ?_
    refine lv_iload hx hb dL_law_352 (lv_at hl 0 rfl) ?_
    refine lv_iconst (v := 4) hx hb dL_law_354 (by decide) ?_
    refine lv_iload_n hx hb dL_law_355 rfl (lv_at hl 2 rfl) ?_
    refine lv_imul hx hb dL_law_356 ?_
    refine lv_iadd hx hb dL_law_357 ?_
    refine lv_bipush (v := 16) hx hb dL_law_358 (by decide) ?_
    refine lv_irem hx hb dL_law_360 (by decide) ?_
    refine l_cell B hl hH hO (k := (((nI k) + ((4 : Int32) * (nI r))) - ((nI k) + ((4 : Int32) * (nI r))) / (16 : Int32) * (16 : Int32))) (rest := [.int (nI mc), .ref (adr Γ 0)]) (by rw [show nI k + (4 : Int32) * nI r = nI (k + 4 * r) by rw [show (4 : Int32) = nI 4 from rfl, pk_mul, nI_add], rem16 (by omega), ltz (by omega)]; exact fun z => z) dL_law_361 rfl (Nat.le_of_ble_eq_true rfl) hf (fun r1 H locs hH hO => ?_)
    refine lv_iload hx hb dL_law_364 (lv_at hl 0 rfl) ?_
    refine lv_iadd hx hb dL_law_366 ?_
    refine lv_topi (fun x _ => ?_)
    refine lv_aload_n hx hb dL_law_367 rfl (lv_at hl 4 rfl) ?_
    refine lv_iload hx hb dL_law_368 (lv_at hl 0 rfl) ?_
    refine lv_iload_n hx hb dL_law_370 rfl (lv_at hl 2 rfl) ?_
    refine lv_iadd hx hb dL_law_371 ?_
    refine lv_bipush (v := 7) hx hb dL_law_372 (by decide) ?_
    refine lv_iadd hx hb dL_law_374 ?_
    refine lv_bipush (v := 16) hx hb dL_law_375 (by decide) ?_
    refine lv_irem hx hb dL_law_377 (by decide) ?_
    refine l_cell B hl hH hO (k := ((((nI k) + (nI r)) + (7 : Int32)) - (((nI k) + (nI r)) + (7 : Int32)) / (16 : Int32) * (16 : Int32))) (rest := [.int x, .int (nI mc), .ref (adr Γ 0)]) (by rw [show nI k + nI r + (7 : Int32) = nI (k + r + 7) by rw [show (7 : Int32) = nI 7 from rfl, nI_add, nI_add], rem16 (by omega), ltz (by omega)]; exact fun z => z) dL_law_378 rfl (Nat.le_of_ble_eq_true rfl) hf (fun r2 H locs hH hO => ?_)
    refine lv_iload_n hx hb dL_law_381 rfl (lv_at hl 2 rfl) ?_
    refine lv_iadd hx hb dL_law_382 ?_
    refine lv_topi (fun y _ => ?_)
    obtain ⟨σ1, he, hz1, hV1⟩ := lz_edit hz h1 x y
    refine l_callSI X hl hH hO hA (As := [.ref (adr Γ 0), .int (nI mc), .int x, .int y]) (rest := []) (c_L_edit l hJ σ (nI mc) x y σ1 1 he) (cw_S X 4 (List.mem_of_getElem? (i := 251) (by decide +kernel)) (List.mem_of_getElem? (i := 249) (by decide +kernel)) (List.mem_of_getElem? (i := 250) (by decide +kernel)) (List.mem_of_getElem? (i := 124) (by decide +kernel)) rfl rfl (by decide +kernel) ⟨Nat.le_of_ble_eq_true rfl, Nat.le_of_ble_eq_true rfl⟩) rfl rfl (Nat.le_of_ble_eq_true rfl) dL_law_383 ⟨Nat.le_trans hf.1 (Nat.le_of_ble_eq_true rfl), Nat.le_trans hf.2 (Nat.le_of_ble_eq_true rfl)⟩ (fun H locs hH hO => ?_)
    refine lv_if_ne (tgt := 391) hx hb dL_law_386 (by decide) (fun _ => ?_) (fun hc => absurd hc (by decide))
    refine lv_iinc (v := (nI (k + 1))) (lv' := [(9, .int (nI (k + 1))), (8, .ref wa), (3, .int (nI r)), (2, .int (nI mc)), (0, .ref b), (1, .ref (adr Γ 0))]) hx hb dL_law_391 hl (k := 0) rfl (by rw [← nI_1]; rfl) (by decide) rfl (fun ls hl => ?_)
    refine lv_goto (tgt := 343) hx hb dL_law_394 (by decide) ?_
    exact ih (k + 1) (by omega) σ1 f _ _ _ hz1 (hV1.trans hV) hfV hH hO hl
set_option maxHeartbeats 4000000 in
set_option maxRecDepth 100000 in
theorem law_check (B : LB Γ p s m c b L xs) {mc r wa : Nat} {V f0 : Nat → Int32} (h1 : 1 ≤ mc) (h7 : mc ≤ 8) (hr5 : r < 5) (hf : cells ≤ 2000 ∧ slots ≤ 100000) (hA0 : AW (fun q => s.heap.size ≤ q) Γ (woR Γ wa (16 * mc) f0)) (kk : ∀ (σ : Sg) (f : Nat → Int32) (H : Heap) (locs : List Loc) (ls : Array Slot), LZ σ mc → runV σ = V → (∀ j, j < 16 * mc → f j = V j) → HW (fun q => s.heap.size ≤ q) Γ σ s.heap H locs → va_P Γ.1 vwCl (woR Γ wa (16 * mc) f) H → lv_has ls 10 [(9, .int (nI (16 * mc))), (8, .ref wa), (3, .int (nI r)), (2, .int (nI mc)), (0, .ref b), (1, .ref (adr Γ 0))] → W p l e room_1 s m #[Value.ref b] below meth c H locs cells slots Q (F0 m 438 ls [])) : ∀ d k, k + d = (16 * mc) → ∀ (σ : Sg) (f : Nat → Int32) (H : Heap) (locs : List Loc) (ls : Array Slot), LZ σ mc → runV σ = V → (∀ j, j < 16 * mc → f j = V j) → HW (fun q => s.heap.size ≤ q) Γ σ s.heap H locs → va_P Γ.1 vwCl (woR Γ wa (16 * mc) f) H → lv_has ls 10 [(9, .int (nI k)), (8, .ref wa), (3, .int (nI r)), (2, .int (nI mc)), (0, .ref b), (1, .ref (adr Γ 0))] → W p l e room_1 s m #[Value.ref b] below meth c H locs cells slots Q (F0 m 400 ls []) := by
  obtain ⟨X, hX, hbl, hL⟩ := id B
  have hx := X.1
  have hb := X.2.1
  have hJ : IJ Γ := X.2.2.2.2.2.2.1
  intro d
  induction d with
  | zero =>
    intro k hk σ f H locs ls hz hV hfV hH hO hl
    have hk : k = 16 * mc := by omega
    subst hk
    refine lv_iload hx hb dL_law_400 (lv_at hl 0 rfl) ?_
    refine lv_aload hx hb dL_law_402 (lv_at hl 1 rfl) ?_
    refine l_len X hO dL_law_404 ?_
    refine lv_icmp_ge (tgt := 438) hx hb dL_law_405 (by decide) (fun _ => ?_) (fun hc => absurd (show nI (16 * mc) ≤ nI (16 * mc) by rw [le_n (by omega) (by omega)]; omega) hc)
    exact kk σ f _ _ _ hz hV hfV hH hO hl
  | succ d ih =>
    intro k hk σ f H locs ls hz hV hfV hH hO hl
    have hA : AW (fun q => s.heap.size ≤ q) Γ (woR Γ wa (16 * mc) f) := hA0.fn
    refine lv_iload hx hb dL_law_400 (lv_at hl 0 rfl) ?_
    refine lv_aload hx hb dL_law_402 (lv_at hl 1 rfl) ?_
    refine l_len X hO dL_law_404 ?_
    refine lv_icmp_ge (tgt := 438) hx hb dL_law_405 (by decide) (fun hc => absurd hc (by rw [le_n (by omega) (by omega)]; omega)) (fun _ => ?_)
    refine lv_aload_n hx hb dL_law_408 rfl (lv_at hl 5 rfl) ?_
    refine lv_iload hx hb dL_law_409 (lv_at hl 0 rfl) ?_
    refine lv_bipush (v := 16) hx hb dL_law_411 (by decide) ?_
    refine lv_idiv hx hb dL_law_413 (by decide) ?_
    rw [show (((nI k) / (16 : Int32)) : Int32) = (nI (k / 16)) from dv16 (by omega)]
    refine lv_iload hx hb dL_law_414 (lv_at hl 0 rfl) ?_
    refine lv_bipush (v := 16) hx hb dL_law_416 (by decide) ?_
    refine lv_irem hx hb dL_law_418 (by decide) ?_
    rw [show (((nI k) - (nI k) / (16 : Int32) * (16 : Int32)) : Int32) = (nI (k % 16)) from rem16 (by omega)]
    obtain ⟨σ1, he, hz1, hV1⟩ := lz_run hz (show k < 16 * mc by omega)
    refine l_callVI X hl hH hO hA (As := [.int (nI (k / 16)), .int (nI (k % 16))]) (rest := []) (c_X10_run l hJ σ (nI (k / 16)) (nI (k % 16)) σ1 (runV σ k) he) (cw_V X 2 (List.mem_of_getElem? (i := 613) (by decide +kernel)) (List.mem_of_getElem? (i := 610) (by decide +kernel)) (List.mem_of_getElem? (i := 611) (by decide +kernel)) (List.mem_of_getElem? (i := 612) (by decide +kernel)) (List.mem_of_getElem? (i := 2) (by decide +kernel)) rfl rfl (by decide +kernel) ⟨Nat.le_of_ble_eq_true rfl, Nat.le_of_ble_eq_true rfl⟩) (r_recv X hH (k := 0) (by decide) rfl rfl) rfl rfl (Nat.le_of_ble_eq_true rfl) dL_law_419 ⟨Nat.le_trans hf.1 (Nat.le_of_ble_eq_true rfl), Nat.le_trans hf.2 (Nat.le_of_ble_eq_true rfl)⟩ (fun H locs hH hO => ?_)
    refine lv_aload hx hb dL_law_422 (lv_at hl 1 rfl) ?_
    refine lv_iload hx hb dL_law_424 (lv_at hl 0 rfl) ?_
    refine l_ald X hO (inb_nI (by omega) (by omega)) dL_law_426 ?_
    refine lv_icmp_eq (tgt := 432) hx hb dL_law_427 (by decide) (fun _ => ?_) (fun hc => absurd (by rw [cl_nI (by omega), hfV k (by omega), hV]) hc)
    refine lv_iinc (v := (nI (k + 1))) (lv' := [(9, .int (nI (k + 1))), (8, .ref wa), (3, .int (nI r)), (2, .int (nI mc)), (0, .ref b), (1, .ref (adr Γ 0))]) hx hb dL_law_432 hl (k := 0) rfl (by rw [← nI_1]; rfl) (by decide) rfl (fun ls hl => ?_)
    refine lv_goto (tgt := 400) hx hb dL_law_435 (by decide) ?_
    exact ih (k + 1) (by omega) σ1 f _ _ _ hz1 (hV1.trans hV) hfV hH hO hl
end LAWS
