/-! THE LAW: rows for its own walk; beside the mill's cells its own row of answers (wo) -/
def AW (A : Nat → Prop) (Γ : GG) (wo : va_W) : Prop := va_D A wo ∧ ∀ (k : Nat) (q : Nat × va_E), wo[k]? = some q → ¬ IA Γ q.1
/-- no row, or the row of answers at wa -/
abbrev woR (Γ : GG) (wa n : Nat) (f : Nat → Int32) : va_W := [(wa, .inl (Γ.2.1 0, n, .inl f))]
section LROWS
variable {p : Program} {l : Launch} {e : Env} {R : Room} {s : State} {m : MethodId} {args : Array Value} {below : List Frame} {meth : Method} {c : Code} {H : Heap} {locs : List Loc} {cells slots : Nat} {Q : State → Prop}
variable {cc : ByteArray} {pc nL : Nat} {ls : Array Slot} {rest : List Value} {own : String} {A : Nat → Prop} {Γ : GG} {σ : Sg} {H0 : Heap} {wo : va_W}
variable {y : MethodName} {bytes : ByteArray} {maxL n index : Nat} {ret : Option FieldType} {rm : Room} {As st0 : List Value} {σ' : Sg} {lv : List (Nat × Value)}
theorem AW.nil (A : Nat → Prop) (Γ : GG) : AW A Γ [] := ⟨⟨fun i j x y h => by simp at h, fun k q h => by simp at h⟩, fun k q h => by simp at h⟩
theorem AW.fn {wa n n' : Nat} {f f' : Nat → Int32} (h : AW A Γ (woR Γ wa n f)) : AW A Γ (woR Γ wa n' f') := by
  have key : ∀ (k : Nat) (q : Nat × va_E), (woR Γ wa n' f')[k]? = some q → k = 0 ∧ q.1 = wa := fun k q hk => by
    have hz : k < 1 := (List.getElem?_eq_some_iff.mp hk).1
    have hk0 : k = 0 := by omega
    subst hk0
    cases hk
    exact ⟨rfl, rfl⟩
  refine ⟨⟨fun i j x y hi hj _ => by rw [(key i x hi).1, (key j y hj).1], fun k q hk => ?_⟩, fun k q hk => ?_⟩
  · rw [(key k q hk).2]; exact h.1.2 0 _ rfl
  · rw [(key k q hk).2]; exact h.2 0 _ rfl
theorem AW.all (X : MX A Γ p s m args c cc nL own) (h : AW A Γ wo) (σ : Sg) : va_D A (wd Γ σ ++ wo) := va_D.app (X.D σ) h.1 (fun i j x y hi hj e => by
  have hl := (List.getElem?_eq_some_iff.mp hi).1
  rw [wd_len] at hl
  rw [wd_get hl] at hi
  cases hi
  exact h.2 j y hj ⟨i, hl, e.symm⟩)
theorem l_callVI (X : MX A Γ p s m args c cc nL own) (hl : lv_has ls nL lv) (hH : HW A Γ σ H0 H locs) (hO : va_P Γ.1 vwCl wo H) (hA : AW A Γ wo) {b : Nat} {r : Int32} (hM : CI l y (wy y bytes maxL ret) rm Γ σ (.ref b :: As) σ' r) (cw : CallW R s args own y.cls index y bytes maxL ret (wy y bytes maxL ret) rm 0 0 n) (hrc : ∃ cell : Cell, H[b]? = some cell ∧ cell.vm.isStatics = false ∧ s.vm.findClass y.cls = some cell.cls) (hn : As.length = n) (hst : st0 = As.reverse ++ .ref b :: rest) (hW : (rest.map fun v => v.category).sum ≤ 8) (hdg : decode cc pc = .ok (.invokevirtual index, 3)) (hf : cells ≤ R.cells ∧ slots ≤ R.slots)
    (kk : ∀ H1 locs1, HW A Γ σ' H0 H1 locs1 → va_P Γ.1 vwCl wo H1 → W p l e R s m args below meth c H1 locs1 cells slots Q (F0 m (pc + 3) ls (.int r :: rest))) : W p l e R s m args below meth c H locs cells slots Q (F0 m pc ls st0) :=
  va_calli (va_runV (As := As) (rest := rest) (fix_of X) hM cw ⟨cp_blind, hrc, cp_pre X hH⟩ rfl hn hl.1 hst (lv_room hW) hdg hf) hH.2 (fun q _ h => ia_in X q h) (ia_in X) (fun r' u t H1 locs1 ht _ hw hB _ hk hS => by
    subst hw
    exact kk H1 locs1 ⟨by rw [← ht]; exact hB.1, hS⟩ (hO.kept (fun k q hq => hk q.1 (hO k q hq).lt (hA.2 k q hq))))
theorem l_callVL (X : MX A Γ p s m args c cc nL own) (hl : lv_has ls nL lv) (hH : HW A Γ σ H0 H locs) (hO : va_P Γ.1 vwCl wo H) (hA : AW A Γ wo) {b : Nat} {r : Int64} (hM : CL l y (wy y bytes maxL ret) rm Γ σ (.ref b :: As) σ' r) (cw : CallW R s args own y.cls index y bytes maxL ret (wy y bytes maxL ret) rm 0 0 n) (hrc : ∃ cell : Cell, H[b]? = some cell ∧ cell.vm.isStatics = false ∧ s.vm.findClass y.cls = some cell.cls) (hn : As.length = n) (hst : st0 = As.reverse ++ .ref b :: rest) (hW : (rest.map fun v => v.category).sum ≤ 8) (hdg : decode cc pc = .ok (.invokevirtual index, 3)) (hf : cells ≤ R.cells ∧ slots ≤ R.slots)
    (kk : ∀ H1 locs1, HW A Γ σ' H0 H1 locs1 → va_P Γ.1 vwCl wo H1 → W p l e R s m args below meth c H1 locs1 cells slots Q (F0 m (pc + 3) ls (.long r :: rest))) : W p l e R s m args below meth c H locs cells slots Q (F0 m pc ls st0) :=
  va_calll (va_runV (As := As) (rest := rest) (fix_of X) hM cw ⟨cp_blind, hrc, cp_pre X hH⟩ rfl hn hl.1 hst (lv_room hW) hdg hf) hH.2 (fun q _ h => ia_in X q h) (ia_in X) (fun r' u t H1 locs1 ht _ hw hB _ hk hS => by
    subst hw
    exact kk H1 locs1 ⟨by rw [← ht]; exact hB.1, hS⟩ (hO.kept (fun k q hq => hk q.1 (hO k q hq).lt (hA.2 k q hq))))
theorem l_callSI (X : MX A Γ p s m args c cc nL own) (hl : lv_has ls nL lv) (hH : HW A Γ σ H0 H locs) (hO : va_P Γ.1 vwCl wo H) (hA : AW A Γ wo) {r : Int32} (hM : CI l y (wy y bytes maxL ret) rm Γ σ As σ' r) (cw : CallB R s args own index y bytes maxL ret (wy y bytes maxL ret) rm 0 0 n ∧ (Cond.static y).before args s = true) (hn : As.length = n) (hst : st0 = As.reverse ++ rest) (hW : (rest.map fun v => v.category).sum ≤ 8) (hdg : decode cc pc = .ok (.invokestatic index, 3)) (hf : cells ≤ R.cells ∧ slots ≤ R.slots)
    (kk : ∀ H1 locs1, HW A Γ σ' H0 H1 locs1 → va_P Γ.1 vwCl wo H1 → W p l e R s m args below meth c H1 locs1 cells slots Q (F0 m (pc + 3) ls (.int r :: rest))) : W p l e R s m args below meth c H locs cells slots Q (F0 m pc ls st0) :=
  va_calli (va_runS (As := As) (rest := rest) (fix_of X) hM cw ⟨cp_blind, cp_pre X hH⟩ rfl hn hl.1 hst (lv_room hW) hdg hf) hH.2 (fun q _ h => ia_in X q h) (ia_in X) (fun r' u t H1 locs1 ht _ hw hB _ hk hS => by
    subst hw
    exact kk H1 locs1 ⟨by rw [← ht]; exact hB.1, hS⟩ (hO.kept (fun k q hq => hk q.1 (hO k q hq).lt (hA.2 k q hq))))
/-- a new row of answers -/
theorem l_new (X : MX A Γ p s m args c cc nL own) (hH : HW A Γ σ H0 H locs) (hA0 : ∀ q, H0.size ≤ q → A q) {n : Int32} {N' : Nat} (hn : ¬ n < 0) (hN : n.toNatClampNeg = N') (hb : N' ≤ 1000) (hcells : cells + 1 ≤ R.cells) (hslots : slots + N' ≤ R.slots) (hdg : decode cc pc = .ok (.newarray .int, 2))
    (kk : ∀ wa H1, HW A Γ σ H0 H1 locs → va_P Γ.1 vwCl (woR Γ wa N' (fun _ => 0)) H1 → AW A Γ (woR Γ wa N' (fun _ => 0)) → W p l e R s m args below meth c H1 locs (cells + 1) (slots + N') Q (F0 m (pc + 2) ls (.ref wa :: rest))) : W p l e R s m args below meth c H locs cells slots Q (F0 m pc ls (.int n :: rest)) := by
  refine va_newa (A := A) (H0 := H0) (ws := wd Γ σ) (atype := .int) (ty := .int) (a0 := (N', .inl (fun _ => 0))) X.1 X.2.1 (X.2.2.2.2.1 _ (List.mem_of_getElem? (i := 3) (by decide +kernel))) rfl X.2.2.2.2.2.1 hH.1 (X.D σ) hH.2 hA0 (fun _ => rfl) hn hN (by show N' * 4 ≤ 536870912; omega) hcells hslots hdg (fun q cA H1 hK hP hD hS => ?_)
  have h4 : va_RA s cA .int := (hK.2 4 (cA, .int) rfl).2
  have h0 : va_RA s (Γ.2.1 0) .int := (X.2.2.2.2.2.1.2 0 (Γ.2.1 0, .int) rfl).2
  have hc : cA = Γ.2.1 0 := Option.some.inj (h4.symm.trans h0)
  subst hc
  have hl : (wd Γ σ ++ woR Γ q N' (fun _ => 0))[440]? = some (q, .inl (Γ.2.1 0, N', .inl (fun _ => 0))) := by rw [List.getElem?_append_right (by rw [wd_len]; omega), wd_len]; rfl
  have key : ∀ (k : Nat) (z : Nat × va_E), (woR Γ q N' (fun _ => 0))[k]? = some z → k = 0 ∧ z = (q, .inl (Γ.2.1 0, N', .inl (fun _ => 0))) := fun k z hk => by
    have hz : k < 1 := (List.getElem?_eq_some_iff.mp hk).1
    have hk0 : k = 0 := by omega
    subst hk0
    cases hk
    exact ⟨rfl, rfl⟩
  refine kk q H1 ⟨hP.by id (fun k z hk => ?_), hS⟩ (hP.by (fun _ => 440) (fun k z hk => ?_)) ⟨⟨fun i j x y hi hj _ => by rw [(key i x hi).1, (key j y hj).1], fun k z hk => ?_⟩, fun k z hk => ?_⟩
  · show (wd Γ σ ++ woR Γ q N' (fun _ => 0))[k]? = some z
    rw [List.getElem?_append_left (List.getElem?_eq_some_iff.mp hk).1]; exact hk
  · rw [(key k z hk).2]; exact hl
  · rw [(key k z hk).2]; exact hD.2 440 _ hl
  · rw [(key k z hk).2]
    rintro ⟨j, hj, ej⟩
    have h1 : (wd Γ σ ++ woR Γ q N' (fun _ => 0))[j]? = some (adr Γ j, cellQ Γ σ (desc j)) := by rw [List.getElem?_append_left (by rw [wd_len]; exact hj), wd_get hj]
    have := hD.1 j 440 _ _ h1 hl ej.symm
    omega
theorem l_ald {wa N' : Nat} {f : Nat → Int32} (X : MX A Γ p s m args c cc nL own) (hO : va_P Γ.1 vwCl (woR Γ wa N' f) H) {i : Int32} (hin : inb i N' = true) (hdg : decode cc pc = .ok (.iaload, 1))
    (kk : W p l e R s m args below meth c H locs cells slots Q (F0 m (pc + 1) ls (.int (f i.toNatClampNeg) :: rest))) : W p l e R s m args below meth c H locs cells slots Q (F0 m pc ls (.int i :: .ref wa :: rest)) :=
  va_iald X.1 X.2.1 X.2.2.2.2.2.1 hO 0 0 (cA := Γ.2.1 0) (n := N') (f := f) rfl rfl (inb_vp hin) hdg kk
theorem l_len {wa N' : Nat} {f : Nat → Int32} (X : MX A Γ p s m args c cc nL own) (hO : va_P Γ.1 vwCl (woR Γ wa N' f) H) (hdg : decode cc pc = .ok (.arraylength, 1))
    (kk : W p l e R s m args below meth c H locs cells slots Q (F0 m (pc + 1) ls (.int (nI N') :: rest))) : W p l e R s m args below meth c H locs cells slots Q (F0 m pc ls (.ref wa :: rest)) :=
  va_alen X.1 X.2.1 X.2.2.2.2.2.1 hO 0 0 (cA := Γ.2.1 0) (x := (N', .inl f)) rfl rfl rfl hdg kk
theorem l_ast {wa N' : Nat} {f : Nat → Int32} (X : MX A Γ p s m args c cc nL own) (hH : HW A Γ σ H0 H locs) (hO : va_P Γ.1 vwCl (woR Γ wa N' f) H) (hA : AW A Γ (woR Γ wa N' f)) {i x : Int32} (hin : inb i N' = true) (hdg : decode cc pc = .ok (.iastore, 1))
    (kk : ∀ H1 locs1, HW A Γ σ H0 H1 locs1 → va_P Γ.1 vwCl (woR Γ wa N' (upd f i.toNatClampNeg x)) H1 → W p l e R s m args below meth c H1 locs1 cells slots Q (F0 m (pc + 1) ls rest)) : W p l e R s m args below meth c H locs cells slots Q (F0 m pc ls (.int x :: .int i :: .ref wa :: rest)) := by
  refine va_iast (ws := wd Γ σ ++ woR Γ wa N' f) X.1 X.2.1 X.2.2.2.2.2.1 (hH.1.app hO) (hA.all X σ) hH.2 440 0 (cA := Γ.2.1 0) (n := N') (f := f) (by rw [List.getElem?_append_right (by rw [wd_len]; omega), wd_len]; rfl) rfl (inb_vp hin) hdg (fun H1 locs1 hP _ hS => ?_)
  refine kk H1 locs1 ⟨hP.by id (fun k z hk => ?_), hS⟩ (hP.by (fun _ => 440) (fun k z hk => ?_))
  · have hl := (List.getElem?_eq_some_iff.mp hk).1
    rw [wd_len] at hl
    show ((wd Γ σ ++ woR Γ wa N' f).set 440 _)[k]? = _
    rw [List.getElem?_set_ne (by omega), List.getElem?_append_left (by rw [wd_len]; exact hl)]
    exact hk
  · have hz : k < 1 := (List.getElem?_eq_some_iff.mp hk).1
    have hk0 : k = 0 := by omega
    subst hk0
    cases hk
    show ((wd Γ σ ++ woR Γ wa N' f).set 440 _)[440]? = _
    rw [List.getElem?_set_self (by rw [List.length_append, wd_len]; exact Nat.le_of_ble_eq_true rfl)]
end LROWS
/-- a cell of the script, whatever it is -/
theorem c_cell (l : Launch) {b L : Nat} {xs : Nat → Int32} {k : Int32} (hk : ¬ k < 0) (hL : L ≤ 260) : Met l yL_cell (wy yL_cell cL_cell 2 (some .int)) ({ frames := 0, cells := 0, slots := 0, locals := 0 } : Room) (va_Pc [.ref b, .int k] (fun U => va_X b L xs U U.heap ∧ b < U.heap.size)) (va_Qi (fun (_ : Int32) (_ : Unit) => True) (fun _ _ => True) (fun _ => False)) 0 0 (fun _ => False) := by
  refine Met.ofW (cc := cL_cell) (maxL := 2) (ret := some .int) (by decide +kernel) rfl ?_
  intro p e s m args below meth c s₁ B hml hv
  obtain ⟨rfl, hX, hbl⟩ := hv
  have hts := atoms_spec (ws := wy yL_cell cL_cell 2 (some .int)) B.pre
  have hx := B.exec
  have hb := B.bytes
  have hr := B.returns
  have hlocks := B.notSynchronized
  have hown : s.vm.findClass RL = some m.cls := findClass_of_methodNamed B.named
  have hS : va_S (fun _ => False) s.heap s.heap [] := va_S.rf
  have hl := lv_entry [.ref b, .int k] (n := 2) (Nat.le_of_ble_eq_true rfl)
  rw [lg_entry_eq]
  generalize (lg_sl [.ref b, .int k] ++ List.replicate (2 - (lg_sl [.ref b, .int k]).length) Slot.unset).toArray = ls at hl ⊢
  have hl : lv_has ls 2 [(0, .ref b), (1, .int k)] := hl
  refine lv_iload_n hx hb dL_cell_0 rfl (lv_at hl 1 rfl) ?_
  refine lv_aload_n hx hb dL_cell_1 rfl (lv_at hl 0 rfl) ?_
  refine va_slen hx hb hX hbl (fun z => z) hS dL_cell_2 ?_
  refine lv_icmp_ge (tgt := 12) hx hb dL_cell_3 (by decide) (fun hc => ?_) (fun hc => ?_)
  · refine lv_ldc (v := 790386105) hx hb hown (hts _ (List.mem_cons_of_mem _ (List.mem_of_getElem? (i := 126) (by decide +kernel)))) dL_cell_12 ?_
    refine lv_iload_n hx hb dL_cell_14 rfl (lv_at hl 1 rfl) ?_
    refine lv_iconst (v := 3) hx hb dL_cell_15 (by decide) ?_
    refine lv_iadd hx hb dL_cell_16 ?_
    refine lv_imul hx hb dL_cell_17 ?_
    exact W.iret hx hb hr (fun t ht hW => ⟨⟨_, (), rfl, trivial, trivial⟩, hS.F ht⟩) hS.2.2 dL_cell_18
  · have hin : vp_in k L := by
      intro z
      rcases z with z | z
      · exact hk z
      · refine hc ?_
        show nI L ≤ k
        obtain ⟨j, hj, rfl⟩ : ∃ j, j < 2147483648 ∧ k = nI j := ⟨k.toNatClampNeg, by have := Int32.toNatClampNeg_lt k; omega, (by
          rw [show nI k.toNatClampNeg = Int32.ofNat k.toNatClampNeg from rfl]
          exact (Int32.ofNat_toNatClampNeg k (Int32.not_lt.mp hk)).symm)⟩
        rw [cl_nI hj] at z
        rw [le_n (by omega) hj]; exact z
    refine lv_aload_n hx hb dL_cell_6 rfl (lv_at hl 0 rfl) ?_
    refine lv_iload_n hx hb dL_cell_7 rfl (lv_at hl 1 rfl) ?_
    refine va_sld hx hb hX hbl (fun z => z) hS hin dL_cell_8 ?_
    refine lv_goto (tgt := 18) hx hb dL_cell_9 (by decide) ?_
    exact W.iret hx hb hr (fun t ht hW => ⟨⟨_, (), rfl, trivial, trivial⟩, hS.F ht⟩) hS.2.2 dL_cell_18
