/-! THE LAW from its entry. Laid by wip/p23/mkstart.py -/
theorem k_all {s : State} {args : Array Value} (hts : ∀ w ∈ wL, w.before args s = true) (ho : va_AO RX5 s) : ∃ (D : va_G) (dA : Nat → ClassId), va_K D vwCl [(dA 0, .int), (dA 1, .long), (dA 2, .boolean), (dA 3, .object RX5)] s := by
  obtain ⟨c0, i0, k0⟩ := u_known (C := RX3) (T := TX3) (N := 8) (n := 8) hts inlX3 (hts _ (List.mem_of_getElem? (i := 76) (by decide +kernel)))
  obtain ⟨c1, i1, k1⟩ := u_known (C := RX4) (T := TX4) (N := 8) (n := 8) hts inlX4 (hts _ (List.mem_of_getElem? (i := 15) (by decide +kernel)))
  obtain ⟨c2, i2, k2⟩ := u_known (C := RX5) (T := TX5) (N := 10) (n := 10) hts inlX5 (hts _ (List.mem_of_getElem? (i := 71) (by decide +kernel)))
  obtain ⟨c3, i3, k3⟩ := u_known (C := RX6) (T := TX6) (N := 7) (n := 7) hts inlX6 (hts _ (List.mem_of_getElem? (i := 19) (by decide +kernel)))
  obtain ⟨c4, i4, k4⟩ := u_known (C := RX7) (T := TX7) (N := 2) (n := 2) hts inlX7 (hts _ (List.mem_of_getElem? (i := 68) (by decide +kernel)))
  obtain ⟨c5, i5, k5⟩ := u_known (C := RX8) (T := TX8) (N := 4) (n := 4) hts inlX8 (hts _ (List.mem_of_getElem? (i := 11) (by decide +kernel)))
  obtain ⟨c6, i6, k6⟩ := u_known (C := RX9) (T := TX9) (N := 8) (n := 8) hts inlX9 (hts _ (List.mem_of_getElem? (i := 23) (by decide +kernel)))
  obtain ⟨c7, i7, k7⟩ := u_known (C := RX10) (T := TX10) (N := 11) (n := 11) hts inlX10 (hts _ (List.mem_of_getElem? (i := 1) (by decide +kernel)))
  obtain ⟨cI, kI, pI, aI1, aI2, aI3⟩ := Cond.arrayClass_spec (type := .int) (hts (.arrayClass .int) (List.mem_of_getElem? (i := 3) (by decide +kernel)))
  obtain ⟨cJ, kJ, pJ, aJ1, aJ2, aJ3⟩ := Cond.arrayClass_spec (type := .long) (hts (.arrayClass .long) (List.mem_of_getElem? (i := 91) (by decide +kernel)))
  obtain ⟨cZ, kZ, pZ, aZ1, aZ2, aZ3⟩ := Cond.arrayClass_spec (type := .boolean) (hts (.arrayClass .boolean) (List.mem_of_getElem? (i := 95) (by decide +kernel)))
  obtain ⟨pO, cO, kO, o1, _, o3, o4, o5⟩ := Cond.arrayOver_spec (va_AO.use (A := args) ho)
  refine ⟨(fun k => match k with | 0 => c0 | 1 => c1 | 2 => c2 | 3 => c3 | 4 => c4 | 5 => c5 | 6 => c6 | _ => c7, fun k => match k with | 0 => i0 | 1 => i1 | 2 => i2 | 3 => i3 | 4 => i4 | 5 => i5 | 6 => i6 | _ => i7), fun k => match k with | 0 => cI | 1 => cJ | 2 => cZ | _ => cO, fun k q hq => ?_, fun k q hq => ?_⟩
  · match k, hq with
    | 0, hq => cases hq; exact k0
    | 1, hq => cases hq; exact k1
    | 2, hq => cases hq; exact k2
    | 3, hq => cases hq; exact k3
    | 4, hq => cases hq; exact k4
    | 5, hq => cases hq; exact k5
    | 6, hq => cases hq; exact k6
    | 7, hq => cases hq; exact k7
    | k + 8, hq => simp [vwCl] at hq
  · match k, hq with
    | 0, hq => cases hq; exact ⟨fun n z => ⟨(fun k h => by cases h), kI, aI2, pI, aI3⟩, aI1⟩
    | 1, hq => cases hq; exact ⟨fun n z => ⟨(fun k h => by cases h), kJ, aJ2, pJ, aJ3⟩, aJ1⟩
    | 2, hq => cases hq; exact ⟨fun n z => ⟨(fun k h => by cases h), kZ, aZ2, pZ, aZ3⟩, aZ1⟩
    | 3, hq => cases hq; exact ⟨fun n z => ⟨(fun k h => by cases h), kO, o3, pO, o4⟩, kO, pO, o3, o4, o1, o5⟩
    | k + 4, hq => simp at hq
set_option maxHeartbeats 4000000 in
set_option maxRecDepth 100000 in
/-- THE LAW, from its entry -/
theorem whole_start {p : Program} {e : Env} {s : State} {m : MethodId} {below : List Frame} {meth : Method} {c : Code} (l : Launch) (hflags : l.flags = flags0) {b L : Nat} {xs : Nat → Int32} (hL : L ≤ 260) (C0 : lw_At p s m meth c b L xs) : W p l e room_1 s m #[Value.ref b] below meth c s.heap [] 0 0 (lw_Z below #[Value.ref b] s) (entryFrame m ([Value.ref b] : List Value).toArray 10) := by
  obtain ⟨hx, hb, hr, hml, hown, hts, hX, hbl, hlocks, hgv⟩ := id C0
  have hown : s.vm.findClass RL = some m.cls := hown
  have htsL : ∀ w ∈ wL, w.before #[Value.ref b] s = true := fun w hw => hts w (wL_tbl w hw)
  have nw : va_Nw wN s := va_Nw.of rfl (hts wN (List.mem_of_getElem? (i := 672) (by decide +kernel)))
  have nw1 : va_Nw wN1 s := va_Nw.of rfl (hts wN1 (List.mem_of_getElem? (i := 76) (by decide +kernel)))
  have nw2 : va_Nw wN2 s := va_Nw.of rfl (hts wN2 (List.mem_of_getElem? (i := 205) (by decide +kernel)))
  have ao : va_AO RX5 s := va_AO.of (hts (.arrayOver (.object RX5)) (List.mem_of_getElem? (i := 181) (by decide +kernel)))
  obtain ⟨D, dA, hK⟩ := k_all htsL ao
  have hl := lv_entry ([.ref b]) (n := 10) (Nat.le_of_ble_eq_true rfl)
  rw [lg_entry_eq]
  generalize (lg_sl ([.ref b]) ++ List.replicate (10 - (lg_sl ([.ref b])).length) Slot.unset).toArray = ls at hl ⊢
  have hl : lv_has ls 10 [(0, .ref b)] := hl
  obtain ⟨n0, hn0⟩ : ∃ n0, n0 = s.heap.size := ⟨_, rfl⟩
  obtain ⟨Γ, hΓ⟩ : ∃ Γ, Γ = Γm n0 D dA := ⟨_, rfl⟩
  have hKΓ : va_K Γ.1 vwCl (tyl Γ) s := by rw [hΓ]; exact hK
  have X0 : MN Γ p s m #[Value.ref b] meth c code 10 RL meth.name := ⟨⟨hx, hb, hml, hown, htsL⟩, hKΓ, ⟨nw, nw1, nw2, ao⟩, rfl, hlocks⟩
  have hH : HN n0 Γ noE 0 s.heap s.heap [] 0 := ⟨fun k q h => by simp [wn] at h, by omega, va_S.rf, by omega, by omega⟩
  refine n_new X0 hH (ci := 7) (T := TX10) rfl inlX10 tyX10 tyX10_ok (List.mem_of_getElem? (i := 0) (by decide +kernel)) (List.mem_of_getElem? (i := 1) (by decide +kernel)) (List.mem_of_getElem? (i := 2) (by decide +kernel)) [.null, .null, .null, .null, .null, .null, .null, .null, .int 0, .int 0, .int 0] (fun j hj => by rcases (show j = 0 ∨ j = 1 ∨ j = 2 ∨ j = 3 ∨ j = 4 ∨ j = 5 ∨ j = 6 ∨ j = 7 ∨ j = 8 ∨ j = 9 ∨ j = 10 by omega) with rfl | rfl | rfl | rfl | rfl | rfl | rfl | rfl | rfl | rfl | rfl <;> rfl) (Nat.le_of_ble_eq_true rfl) (Nat.le_of_ble_eq_true rfl) dL_law_0 (fun H hH => ?_)
  refine lv_dup hx hb dL_law_3 rfl ?_
  refine n_callI X0 hl hH (i := 0) (k := 439) (ms := 39885) (As := []) (rest := [.ref (n0 + 0)]) (n := 0) (n_X10_init l n0 Γ _ (by rw [updE_eq])) (List.mem_of_getElem? (i := 6) (by decide +kernel)) (List.mem_of_getElem? (i := 4) (by decide +kernel)) (List.mem_of_getElem? (i := 5) (by decide +kernel)) (List.mem_of_getElem? (i := 2) (by decide +kernel)) rfl rfl rfl (by decide +kernel) ⟨Nat.le_of_ble_eq_true rfl, Nat.le_of_ble_eq_true rfl⟩ rfl rfl (Nat.le_of_ble_eq_true rfl) dL_law_4 ⟨Nat.le_of_ble_eq_true rfl, Nat.le_of_ble_eq_true rfl⟩ (fun H locs hH => ?_)
  refine lv_astore_n (lv' := [(1, .ref (n0 + 0)), (0, .ref b)]) hx hb dL_law_7 rfl hl (by decide) rfl (fun ls hl => ?_)
  have hA0 : adr Γ 0 = n0 + 0 := by rw [hΓ]; rfl
  rw [← hA0] at hl
  have hP : va_P Γ.1 vwCl (wd Γ sg0) H := by
    rw [hΓ]
    refine mem0 ?_
    rw [← hΓ]
    have h1 := hH.1
    rw [hΓ] at h1 ⊢
    exact h1
  have hH : HW (fun q => s.heap.size ≤ q) Γ sg0 s.heap H locs := ⟨hP, by have h2 := hH.2.2.1; rw [hn0] at h2; exact h2⟩
  have hJ : IJ Γ := by rw [hΓ]; exact Γm_J _ _ _
  have hAk : ∀ k, k < 440 → s.heap.size ≤ adr Γ k := fun k _ => by
    rw [hΓ, ← hn0]; exact Nat.le_add_right _ _
  have X : MX (fun q => s.heap.size ≤ q) Γ p s m #[Value.ref b] c code 10 RL := ⟨hx, hb, hml, hown, htsL, hKΓ, hJ, hAk, nw⟩
  have B : LB Γ p s m c b L xs := ⟨X, hX, hbl, hL⟩
  have hA : AW (fun q => s.heap.size ≤ q) Γ [] := AW.nil _ _
  have hO := no_wo Γ H
  refine W.widen (k := 440) (n := 39896) (Nat.le_of_ble_eq_true rfl) (Nat.le_of_ble_eq_true rfl) ?_
  refine lv_iconst (v := 2) hx hb dL_law_8 (by decide) ?_
  refine lv_aload_n hx hb dL_law_9 rfl (lv_at hl 1 rfl) ?_
  refine lv_iconst (v := 0) hx hb dL_law_10 (by decide) ?_
  refine l_cell B hl hH hO (k := 0) (rest := [.int 2]) (by decide) dL_law_11 rfl (Nat.le_of_ble_eq_true rfl) ⟨by omega, by omega⟩ (fun r0 H locs hH hO => ?_)
  refine lv_bipush (v := 6) hx hb dL_law_14 (by decide) ?_
  refine l_callSI X hl hH hO hA (As := [.int r0, .int 6]) (rest := [.int 2]) (c_L_below l hJ sg0 r0 6 (nI (blw r0 6)) (q_below sg0 r0 (n := 6) (by omega) (by omega))) (cw_S X 2 (List.mem_of_getElem? (i := 129) (by decide +kernel)) (List.mem_of_getElem? (i := 127) (by decide +kernel)) (List.mem_of_getElem? (i := 128) (by decide +kernel)) (List.mem_of_getElem? (i := 124) (by decide +kernel)) rfl rfl (by decide +kernel) ⟨Nat.le_of_ble_eq_true rfl, Nat.le_of_ble_eq_true rfl⟩) rfl rfl (Nat.le_of_ble_eq_true rfl) dL_law_16 ⟨Nat.le_of_ble_eq_true rfl, Nat.le_of_ble_eq_true rfl⟩ (fun H locs hH hO => ?_)
  refine lv_iadd hx hb dL_law_19 ?_
  rw [show (((2 : Int32) + (nI (blw r0 6))) : Int32) = (nI (2 + blw r0 6)) from nI_add 2 _]
  have hb6 := blw_lt r0 (n := 6) (by omega)
  generalize hmc : 2 + blw r0 6 = mc
  refine lv_istore_n (lv' := [(2, .int (nI mc)), (1, .ref (adr Γ 0)), (0, .ref b)]) hx hb dL_law_20 rfl hl (by decide) rfl (fun ls hl => ?_)
  refine lv_iconst (v := 0) hx hb dL_law_21 (by decide) ?_
  refine lv_istore_n (lv' := [(3, .int 0), (2, .int (nI mc)), (1, .ref (adr Γ 0)), (0, .ref b)]) hx hb dL_law_22 rfl hl (by decide) rfl (fun ls hl => ?_)
  refine law_mods B (mc := mc) (by omega) (by omega) ⟨by omega, by omega⟩ (fun σ1 H locs ls z1 hH hl => ?_) mc 0 (by omega) sg0 _ _ _ (Or.inl ⟨rfl, rfl⟩) hH (lv_sub hl [0, 1, 3, 2] rfl)
  refine lv_iconst (v := 0) hx hb dL_law_44 (by decide) ?_
  refine lv_istore_n (lv' := [(3, .int 0), (2, .int (nI mc)), (0, .ref b), (1, .ref (adr Γ 0))]) hx hb dL_law_45 rfl hl (by decide) rfl (fun ls hl => ?_)
  refine law_edits B (mc := mc) (by omega) (by omega) ⟨by omega, by omega⟩ (fun σ2 H locs ls z2 hH hl => ?_) 20 0 (by omega) σ1 _ _ _ z1 hH hl
  refine lv_iconst (v := 0) hx hb dL_law_98 (by decide) ?_
  refine lv_istore_n (lv' := [(3, .int 0), (2, .int (nI mc)), (0, .ref b), (1, .ref (adr Γ 0))]) hx hb dL_law_99 rfl hl (by decide) rfl (fun ls hl => ?_)
  refine law_rounds B (mc := mc) (by omega) (by omega) (fun σ3 H locs ls cl sl z3 hc hs hH hl => ?_) 5 0 (by omega) σ2 _ _ _ 440 39896 z2 (by omega) (by omega) hH hl
  exact law_end B hr hlocks (by omega) ⟨hc, hs⟩ z3 hH hl
