/-! MAKING: the memory as it grows, cell by cell. A cell's address is n0 and its place in the order of making; C i what cell i holds, N how many there are; 'cells' how many the walk's own method has made so far. -/
def updE (C : Nat → va_E) (i : Nat) (e : va_E) : Nat → va_E := fun j => if j = i then e else C j
theorem updE_eq (C : Nat → va_E) (i : Nat) (e : va_E) : updE C i e i = e := if_pos rfl
theorem updE_ne {C : Nat → va_E} {i j : Nat} {e : va_E} (h : ¬ j = i) : updE C i e j = C j := if_neg h
abbrev wn (n0 : Nat) (C : Nat → va_E) (N : Nat) : va_W := (List.range N).map (fun i => (n0 + i, C i))
theorem wn_get {n0 N i : Nat} {C : Nat → va_E} (h : i < N) : (wn n0 C N)[i]? = some (n0 + i, C i) := by
  rw [List.getElem?_map, List.getElem?_range h]; rfl
theorem wn_len (n0 : Nat) (C : Nat → va_E) (N : Nat) : (wn n0 C N).length = N := by simp [wn]
theorem wn_some {n0 N k : Nat} {C : Nat → va_E} {q : Nat × va_E} (h : (wn n0 C N)[k]? = some q) : k < N ∧ q = (n0 + k, C k) := by
  have hl := (List.getElem?_eq_some_iff.mp h).1
  rw [wn_len] at hl
  rw [wn_get hl] at h
  cases h
  exact ⟨hl, rfl⟩
theorem wn_D (n0 : Nat) (C : Nat → va_E) (N : Nat) : va_D (fun q => n0 ≤ q) (wn n0 C N) := by
  refine ⟨fun i j x y hi hj hxy => ?_, fun k q hk => ?_⟩
  · obtain ⟨_, rfl⟩ := wn_some hi
    obtain ⟨_, rfl⟩ := wn_some hj
    have : n0 + i = n0 + j := hxy
    omega
  · obtain ⟨_, rfl⟩ := wn_some hk
    exact Nat.le_add_right n0 k
theorem wn_set {n0 N i : Nat} {C : Nat → va_E} {e : va_E} (hi : i < N) : (wn n0 C N).set i (n0 + i, e) = wn n0 (updE C i e) N := by
  apply List.ext_getElem?
  intro j
  by_cases hj : j < N
  · by_cases e' : j = i
    · subst e'
      rw [List.getElem?_set_self (by rw [wn_len]; exact hj), wn_get hj, updE_eq]
    · rw [List.getElem?_set_ne (Ne.symm e'), wn_get hj, wn_get hj, updE_ne e']
  · rw [List.getElem?_eq_none (by rw [List.length_set, wn_len]; omega), List.getElem?_eq_none (by rw [wn_len]; omega)]
theorem wn_push (n0 : Nat) (C : Nat → va_E) (N : Nat) (e : va_E) : wn n0 C N ++ [(n0 + N, e)] = wn n0 (updE C N e) (N + 1) := by
  apply List.ext_getElem?
  intro j
  by_cases hj : j < N
  · rw [List.getElem?_append_left (by rw [wn_len]; exact hj), wn_get hj, wn_get (by omega), updE_ne (by omega)]
  · by_cases e' : j = N
    · subst e'
      rw [List.getElem?_append_right (by rw [wn_len]; omega), wn_len, Nat.sub_self, wn_get (by omega), updE_eq]; rfl
    · rw [List.getElem?_eq_none (by rw [List.length_append, wn_len, List.length_singleton]; omega), List.getElem?_eq_none (by rw [wn_len]; omega)]
theorem wn_c {n0 N : Nat} {C C' : Nat → va_E} (h : ∀ i, i < N → C i = C' i) : wn n0 C N = wn n0 C' N := List.map_congr_left (fun i hi => by rw [h i (List.mem_range.mp hi)])
abbrev wN1 : Cond := .methodLinkNest RX10 11 yX8_init RX10
abbrev wN2 : Cond := .methodLinkNest RX5 11 yX8_init RX10
/-- nest mates' links, and the class of a row of results -/
def NW (U : State) : Prop := va_Nw wN U ∧ va_Nw wN1 U ∧ va_Nw wN2 U ∧ va_AO RX5 U
theorem NW.call {U : State} (h : NW U) (g : JFrame) (mk : MethodId) (a : Array Value) : NW (U.calling g mk a) := ⟨va_Nw.same (u := U) (U := U.calling g mk a) rfl rfl h.1, va_Nw.same (u := U) (U := U.calling g mk a) rfl rfl h.2.1, va_Nw.same (u := U) (U := U.calling g mk a) rfl rfl h.2.2.1, va_AO.moved (u := U) (U := U.calling g mk a) (Vm.Alike.refl U.vm) h.2.2.2⟩
theorem NW.warm {s U : State} (hW : s.WarmedH U.vm) (h : NW s) : NW U := ⟨va_Nw.warmM hW h.1, va_Nw.warmM hW h.2.1, va_Nw.warmM hW h.2.2.1, va_AO.moved hW.alike h.2.2.2⟩
/-- the memory that far, in a state -/
def CN (n0 : Nat) (Γ : GG) (C : Nat → va_E) (N : Nat) (U : State) : Prop := va_P Γ.1 vwCl (wn n0 C N) U.heap ∧ U.heap.size = n0 + N ∧ va_K Γ.1 vwCl (tyl Γ) U ∧ NW U
/-- what a walk knows of its method -/
def MN (Γ : GG) (p : Program) (s : State) (m : MethodId) (args : Array Value) (meth : Method) (c : Code) (cc : ByteArray) (nL : Nat) (own nm : String) : Prop :=
  CallFix p m c cc nL s args wL own ∧ va_K Γ.1 vwCl (tyl Γ) s ∧ NW s ∧ meth.name = nm ∧ meth.locks = false
def HN (n0 : Nat) (Γ : GG) (C : Nat → va_E) (N : Nat) (H0 H : Heap) (locs : List Loc) (cells : Nat) : Prop := va_P Γ.1 vwCl (wn n0 C N) H ∧ H.size = n0 + N ∧ va_S (fun q => n0 ≤ q) H0 H locs ∧ n0 + N = H0.size + cells ∧ n0 ≤ H0.size
section HNS
variable {n0 N cells : Nat} {Γ : GG} {C : Nat → va_E} {H0 H : Heap} {locs : List Loc}
theorem HN.self (h : HN n0 Γ C N H0 H locs cells) : va_S (fun q => n0 ≤ q) H H locs := ⟨Nat.le_refl _, fun _ _ _ => rfl, h.2.2.1.2.2⟩
theorem HN.c (h : HN n0 Γ C N H0 H locs cells) {C' : Nat → va_E} (hC : ∀ i, i < N → C i = C' i) : HN n0 Γ C' N H0 H locs cells := ⟨by rw [← wn_c hC]; exact h.1, h.2⟩
theorem HN.step (hH : HN n0 Γ C N H0 H locs cells) {C' : Nat → va_E} {H1 : Heap} {locs1 : List Loc} (hP : va_P Γ.1 vwCl (wn n0 C' N) H1) (hS : va_S (fun q => n0 ≤ q) H H1 locs1) (hz : H1.size ≤ H0.size + cells) : HN n0 Γ C' N H0 H1 locs1 cells := by
  obtain ⟨h1, h2, h3, h4, h5⟩ := hH
  refine ⟨hP, by have := hS.1; omega, ⟨Nat.le_trans h3.1 hS.1, fun q hq hA => ?_, hS.2.2⟩, h4, h5⟩
  rw [hS.2.1 q (Nat.lt_of_lt_of_le hq h3.1) hA]; exact h3.2.1 q hq hA
theorem HN.push (hH : HN n0 Γ C N H0 H locs cells) {e : va_E} {q : Nat} {H1 : Heap} (hP : va_P Γ.1 vwCl (wn n0 C N ++ [(q, e)]) H1) (hD : va_D (fun q => n0 ≤ q) (wn n0 C N ++ [(q, e)])) (hS : va_S (fun q => n0 ≤ q) H H1 locs) (hz : H1.size ≤ H0.size + (cells + 1)) : q = n0 + N ∧ HN n0 Γ (updE C N e) (N + 1) H0 H1 locs (cells + 1) := by
  obtain ⟨h1, h2, h3, h4, h5⟩ := hH
  have hl : (wn n0 C N ++ [(q, e)])[N]? = some (q, e) := by rw [List.getElem?_append_right (by rw [wn_len]; omega), wn_len, Nat.sub_self]; rfl
  have hlt : q < H1.size := (hP N _ hl).lt
  have hA : n0 ≤ q := hD.2 N _ hl
  have hq : q = n0 + N := by
    by_cases h : q < n0 + N
    · have hj : (wn n0 C N ++ [(q, e)])[q - n0]? = some (n0 + (q - n0), C (q - n0)) := by rw [List.getElem?_append_left (by rw [wn_len]; omega), wn_get (by omega)]
      have := hD.1 _ _ _ _ hj hl (by show n0 + (q - n0) = q; omega)
      omega
    · omega
  subst hq
  rw [wn_push] at hP
  exact ⟨rfl, hP, by omega, ⟨Nat.le_trans h3.1 hS.1, fun x hx hA => (hS.2.1 x (Nat.lt_of_lt_of_le hx h3.1) hA).trans (h3.2.1 x hx hA), hS.2.2⟩, by omega, h5⟩
end HNS
abbrev KN (l : Launch) (y : MethodName) (ws : List Cond) (rm : Room) (n0 : Nat) (Γ : GG) (C : Nat → va_E) (N : Nat) (as : List Value) (C' : Nat → va_E) (k ms : Nat) : Prop := Met l y ws rm (va_Pc as (CN n0 Γ C N)) (va_Qv (fun (_ : Unit) => True) (fun _ t => CN n0 Γ C' (N + k) t) (fun q => n0 ≤ q)) k ms (fun q => n0 ≤ q)
abbrev KL (l : Launch) (y : MethodName) (ws : List Cond) (rm : Room) (n0 : Nat) (Γ : GG) (C : Nat → va_E) (N : Nat) (as : List Value) (v : Int64) : Prop := Met l y ws rm (va_Pc as (CN n0 Γ C N)) (va_Ql (fun (x : Int64) (_ : Unit) => x = v) (fun _ t => CN n0 Γ C N t) (fun q => n0 ≤ q)) 0 0 (fun q => n0 ≤ q)
section NROWS
variable {p : Program} {l : Launch} {e : Env} {R : Room} {s : State} {m : MethodId} {args : Array Value} {below : List Frame} {meth : Method} {c : Code} {H : Heap} {locs : List Loc} {cells slots : Nat} {Q : State → Prop}
variable {cc : ByteArray} {pc nL : Nat} {ls : Array Slot} {rest : List Value} {own nm : String} {n0 N : Nat} {Γ : GG} {C : Nat → va_E}
/-- no more cells than were counted -/
theorem W_size {g : JFrame} (kk : H.size ≤ s.heap.size + cells → W p l e R s m args below meth c H locs cells slots Q g) : W p l e R s m args below meth c H locs cells slots Q g := fun T hT X => kk (by
  have h : T.heap.size ≤ s.heap.size + cells := X.same.2.2.1
  rw [← hT]; exact h) T hT X
theorem n_new (X : MN Γ p s m args meth c cc nL own nm) (hH : HN n0 Γ C N s.heap H locs cells) {ci index NF : Nat} {K : String} {T : u_T} (hc : vwCl[ci]? = some (K, T, NF)) (hin : ∀ w ∈ u_ws K T NF, w ∈ wL) (ty : Nat → FieldType) (hty : ∀ k, k < NF → parseFieldDescriptor (T k).2.2.1 = some (ty k)) (hcl : Cond.classLink own index K ∈ wL) (hinst : Cond.instantiable K NF ∈ wL) (hini : Cond.initialized K ∈ wL) (fs : List Value) (hfs : ∀ j, j < NF → defaultValue (ty j) = vp_V fs j) (hcells : cells + 1 ≤ R.cells) (hslots : slots + NF ≤ R.slots) (hdg : decode cc pc = .ok (.new index, 3))
    (kk : ∀ H1, HN n0 Γ (updE C N (.inr (ci, fs))) (N + 1) s.heap H1 locs (cells + 1) → W p l e R s m args below meth c H1 locs (cells + 1) (slots + NF) Q (F0 m (pc + 3) ls (.ref (n0 + N) :: rest))) : W p l e R s m args below meth c H locs cells slots Q (F0 m pc ls rest) := by
  refine va_new (A := fun q => n0 ≤ q) (H0 := H) (ws := wn n0 C N) X.1.1 X.1.2.1 X.1.2.2.2.2 hin ty hty X.1.2.2.2.1 (X.1.2.2.2.2 _ hcl) (X.1.2.2.2.2 _ hinst) (X.1.2.2.2.2 _ hini) X.2.1 hH.1 (wn_D n0 C N) hH.self (fun q hq => by show n0 ≤ q; have := hH.2.1; omega) hc hfs hcells hslots hdg (fun q H1 hP hD hS => W_size (fun hz => ?_))
  obtain ⟨rfl, h1⟩ := hH.push hP hD hS hz
  exact kk H1 h1
theorem n_newa (X : MN Γ p s m args meth c cc nL own nm) (hH : HN n0 Γ C N s.heap H locs cells) {atype : ArrayType} (t : Nat) {ty : FieldType} (harr : Cond.arrayClass (newarray.typeOf atype) ∈ wL) (hty : newarray.typeOf atype = ty) (hnm : ∀ (U : State) (cA : ClassId), va_RA U cA ty → U.vm.findClass ("[" ++ ty.toString) = some cA) (ht : (tyl Γ)[t]? = some (Γ.2.1 t, ty)) {n : Int32} {N' : Nat} {a0 : vp_A} (ha : ∀ cA : ClassId, vp_cell cA a0 = arrV cA N' (fun _ => defaultValue ty)) (hn : ¬ n < 0) (hN : n.toNatClampNeg = N') (hbytes : N' * componentBytes ty ≤ 536870912) (hcells : cells + 1 ≤ R.cells) (hslots : slots + N' ≤ R.slots) (hdg : decode cc pc = .ok (.newarray atype, 2))
    (kk : ∀ H1, HN n0 Γ (updE C N (.inl (Γ.2.1 t, a0))) (N + 1) s.heap H1 locs (cells + 1) → W p l e R s m args below meth c H1 locs (cells + 1) (slots + N') Q (F0 m (pc + 2) ls (.ref (n0 + N) :: rest))) : W p l e R s m args below meth c H locs cells slots Q (F0 m pc ls (.int n :: rest)) := by
  refine va_newa (A := fun q => n0 ≤ q) (H0 := H) (ws := wn n0 C N) X.1.1 X.1.2.1 (X.1.2.2.2.2 _ harr) hty X.2.1 hH.1 (wn_D n0 C N) hH.self (fun q hq => by show n0 ≤ q; have := hH.2.1; omega) ha hn hN hbytes hcells hslots hdg (fun q cA H1 hK hP hD hS => W_size (fun hz => ?_))
  have h4 : va_RA s cA ty := (hK.2 4 (cA, ty) rfl).2
  have h0 : va_RA s (Γ.2.1 t) ty := (X.2.1.2 t _ ht).2
  have hc : cA = Γ.2.1 t := Option.some.inj ((hnm s cA h4).symm.trans (hnm s _ h0))
  subst hc
  obtain ⟨rfl, h1⟩ := hH.push hP hD hS hz
  exact kk H1 h1
theorem n_newI (X : MN Γ p s m args meth c cc nL own nm) (hH : HN n0 Γ C N s.heap H locs cells) {n : Int32} {N' : Nat} (hn : ¬ n < 0) (hN : n.toNatClampNeg = N') (hb : N' ≤ 1000) (hcells : cells + 1 ≤ R.cells) (hslots : slots + N' ≤ R.slots) (hdg : decode cc pc = .ok (.newarray .int, 2))
    (kk : ∀ H1, HN n0 Γ (updE C N (.inl (Γ.2.1 0, N', .inl (fun _ => 0)))) (N + 1) s.heap H1 locs (cells + 1) → W p l e R s m args below meth c H1 locs (cells + 1) (slots + N') Q (F0 m (pc + 2) ls (.ref (n0 + N) :: rest))) : W p l e R s m args below meth c H locs cells slots Q (F0 m pc ls (.int n :: rest)) :=
  n_newa X hH (atype := .int) 0 (ty := .int) (List.mem_of_getElem? (i := 3) (by decide +kernel)) rfl (fun _ _ h => h) rfl (fun _ => rfl) hn hN (by show N' * 4 ≤ 536870912; omega) hcells hslots hdg kk
theorem n_newJ (X : MN Γ p s m args meth c cc nL own nm) (hH : HN n0 Γ C N s.heap H locs cells) {n : Int32} {N' : Nat} (hn : ¬ n < 0) (hN : n.toNatClampNeg = N') (hb : N' ≤ 1000) (hcells : cells + 1 ≤ R.cells) (hslots : slots + N' ≤ R.slots) (hdg : decode cc pc = .ok (.newarray .long, 2))
    (kk : ∀ H1, HN n0 Γ (updE C N (.inl (Γ.2.1 1, N', .inr (.inl (fun _ => 0))))) (N + 1) s.heap H1 locs (cells + 1) → W p l e R s m args below meth c H1 locs (cells + 1) (slots + N') Q (F0 m (pc + 2) ls (.ref (n0 + N) :: rest))) : W p l e R s m args below meth c H locs cells slots Q (F0 m pc ls (.int n :: rest)) :=
  n_newa X hH (atype := .long) 1 (ty := .long) (List.mem_of_getElem? (i := 91) (by decide +kernel)) rfl (fun _ _ h => h) rfl (fun _ => rfl) hn hN (by show N' * 8 ≤ 536870912; omega) hcells hslots hdg kk
theorem n_newZ (X : MN Γ p s m args meth c cc nL own nm) (hH : HN n0 Γ C N s.heap H locs cells) {n : Int32} {N' : Nat} (hn : ¬ n < 0) (hN : n.toNatClampNeg = N') (hb : N' ≤ 1000) (hcells : cells + 1 ≤ R.cells) (hslots : slots + N' ≤ R.slots) (hdg : decode cc pc = .ok (.newarray .boolean, 2))
    (kk : ∀ H1, HN n0 Γ (updE C N (.inl (Γ.2.1 2, N', .inl (fun _ => 0)))) (N + 1) s.heap H1 locs (cells + 1) → W p l e R s m args below meth c H1 locs (cells + 1) (slots + N') Q (F0 m (pc + 2) ls (.ref (n0 + N) :: rest))) : W p l e R s m args below meth c H locs cells slots Q (F0 m pc ls (.int n :: rest)) :=
  n_newa X hH (atype := .boolean) 2 (ty := .boolean) (List.mem_of_getElem? (i := 95) (by decide +kernel)) rfl (fun _ _ h => h) rfl (fun _ => rfl) hn hN (by show N' * 1 ≤ 536870912; omega) hcells hslots hdg kk
theorem n_newq (X : MN Γ p s m args meth c cc nL own nm) (hH : HN n0 Γ C N s.heap H locs cells) {index : Nat} {n : Int32} {N' : Nat} (hcl : Cond.classLink own index RX5 ∈ wL) (hn : ¬ n < 0) (hN : n.toNatClampNeg = N') (hb : N' ≤ 1000) (hcells : cells + 1 ≤ R.cells) (hslots : slots + N' ≤ R.slots) (hdg : decode cc pc = .ok (.anewarray index, 3))
    (kk : ∀ H1, HN n0 Γ (updE C N (.inl (Γ.2.1 3, N', .inr (.inr (.inr (.inr (fun _ => none))))))) (N + 1) s.heap H1 locs (cells + 1) → W p l e R s m args below meth c H1 locs (cells + 1) (slots + N') Q (F0 m (pc + 3) ls (.ref (n0 + N) :: rest))) : W p l e R s m args below meth c H locs cells slots Q (F0 m pc ls (.int n :: rest)) := by
  refine va_newq (A := fun q => n0 ≤ q) (H0 := H) (ws := wn n0 C N) X.1.1 X.1.2.1 X.1.2.2.2.1 (X.1.2.2.2.2 _ hcl) X.2.2.1.2.2.2 X.2.1 hH.1 (wn_D n0 C N) hH.self (fun q hq => by show n0 ≤ q; have := hH.2.1; omega) hn hN (by omega) hcells hslots hdg (fun q cA H1 hK hP hD hS => W_size (fun hz => ?_))
  obtain ⟨_, _, _, _, _, h4⟩ : va_RA s cA (.object RX5) := (hK.2 4 (cA, .object RX5) rfl).2
  obtain ⟨_, _, _, _, _, h0⟩ : va_RA s (Γ.2.1 3) (.object RX5) := (X.2.1.2 3 (Γ.2.1 3, .object RX5) rfl).2
  have hc : cA = Γ.2.1 3 := Option.some.inj (h4.symm.trans h0)
  subst hc
  obtain ⟨rfl, h1⟩ := hH.push hP hD hS hz
  exact kk H1 h1
theorem n_putF (X : MN Γ p s m args meth c cc nL own nm) (hH : HN n0 Γ C N s.heap H locs cells) {i ci index NF : Nat} {K : String} {T : u_T} {fs : List Value} (hi : i < N) (hC : C i = .inr (ci, fs)) (hc : vwCl[ci]? = some (K, T, NF)) (hin : ∀ w ∈ u_ws K T NF, w ∈ wL) (ty0 : Nat → FieldType) (hty : ∀ k, k < NF → parseFieldDescriptor (T k).2.2.1 = some (ty0 k)) (hnm : ∀ a, a < NF → ∀ b, b < NF → a ≠ b → (T a).2.1 ≠ (T b).2.1) (k : Nat) (hk : k < NF) (hw : Cond.fieldLink own index (T k).1 (T k).2.1 (T k).2.2.1 ∈ wL) (hfin : (T k).2.2.2 = true) (hn2 : nm = "<init>") (hdecl : (T k).1 = own) {ty : FieldType} {v : Value} (hd : parseFieldDescriptor (T k).2.2.1 = some ty) (hn : narrow ty v = v) (hfit : fits ty v = true) (hl : k < fs.length) (hdg : decode cc pc = .ok (.putfield index, 3))
    (kk : ∀ H1 locs1, HN n0 Γ (updE C i (.inr (ci, fs.set k v))) N s.heap H1 locs1 cells → W p l e R s m args below meth c H1 locs1 cells slots Q (F0 m (pc + 3) ls rest)) : W p l e R s m args below meth c H locs cells slots Q (F0 m pc ls (v :: .ref (n0 + i) :: rest)) := by
  refine va_putF (A := fun q => n0 ≤ q) (H0 := H) (ws := wn n0 C N) X.1.1 X.1.2.1 X.1.2.2.2.2 hin ty0 hty hnm X.1.2.2.2.1 X.2.1 hH.1 (wn_D n0 C N) hH.self i (fs := fs) (by rw [wn_get hi, hC]) hc k hk (X.1.2.2.2.2 _ hw) (fun _ h => h) hfin (X.2.2.2.1.trans hn2) hdecl hd hn hfit hl hdg (fun H1 locs1 hP _ hS => W_size (fun hz => ?_))
  rw [wn_set hi] at hP
  exact kk H1 locs1 (hH.step hP hS hz)
theorem n_get (X : MN Γ p s m args meth c cc nL own nm) (hH : HN n0 Γ C N s.heap H locs cells) {i ci index NF : Nat} {K : String} {T : u_T} {fs : List Value} (hi : i < N) (hC : C i = .inr (ci, fs)) (hc : vwCl[ci]? = some (K, T, NF)) (hin : ∀ w ∈ u_ws K T NF, w ∈ wL) (k : Nat) (hk : k < NF) {v : Value} (hv : fs[k]? = some v) (hw : Cond.fieldLink own index (T k).1 (T k).2.1 (T k).2.2.1 ∈ wL) (hdg : decode cc pc = .ok (.getfield index, 3))
    (kk : W p l e R s m args below meth c H locs cells slots Q (F0 m (pc + 3) ls (v :: rest))) : W p l e R s m args below meth c H locs cells slots Q (F0 m pc ls (.ref (n0 + i) :: rest)) :=
  va_get X.1.1 X.1.2.1 X.1.2.2.2.2 hin X.1.2.2.2.1 X.2.1 hH.1 i (fs := fs) (by rw [wn_get hi, hC]) hc k hk (X.1.2.2.2.2 _ hw) (fun _ h => h) hv hdg kk
theorem n_ist (X : MN Γ p s m args meth c cc nL own nm) (hH : HN n0 Γ C N s.heap H locs cells) {i n : Nat} {f : Nat → Int32} (hi : i < N) (hC : C i = .inl (Γ.2.1 0, n, .inl f)) {j x : Int32} (hin : inb j n = true) (hdg : decode cc pc = .ok (.iastore, 1))
    (kk : ∀ H1 locs1, HN n0 Γ (updE C i (.inl (Γ.2.1 0, n, .inl (upd f j.toNatClampNeg x)))) N s.heap H1 locs1 cells → W p l e R s m args below meth c H1 locs1 cells slots Q (F0 m (pc + 1) ls rest)) : W p l e R s m args below meth c H locs cells slots Q (F0 m pc ls (.int x :: .int j :: .ref (n0 + i) :: rest)) := by
  refine va_iast (A := fun q => n0 ≤ q) (H0 := H) (ws := wn n0 C N) X.1.1 X.1.2.1 X.2.1 hH.1 (wn_D n0 C N) hH.self i 0 (cA := Γ.2.1 0) (n := n) (f := f) (by rw [wn_get hi, hC]) rfl (inb_vp hin) hdg (fun H1 locs1 hP _ hS => W_size (fun hz => ?_))
  rw [wn_set hi] at hP
  exact kk H1 locs1 (hH.step hP hS hz)
theorem n_zst (X : MN Γ p s m args meth c cc nL own nm) (hH : HN n0 Γ C N s.heap H locs cells) {i n : Nat} {f : Nat → Int32} (hi : i < N) (hC : C i = .inl (Γ.2.1 2, n, .inl f)) {j x : Int32} (hin : inb j n = true) (hx : zb x = true) (hdg : decode cc pc = .ok (.bastore, 1))
    (kk : ∀ H1 locs1, HN n0 Γ (updE C i (.inl (Γ.2.1 2, n, .inl (upd f j.toNatClampNeg x)))) N s.heap H1 locs1 cells → W p l e R s m args below meth c H1 locs1 cells slots Q (F0 m (pc + 1) ls rest)) : W p l e R s m args below meth c H locs cells slots Q (F0 m pc ls (.int x :: .int j :: .ref (n0 + i) :: rest)) := by
  refine va_zast (A := fun q => n0 ≤ q) (H0 := H) (ws := wn n0 C N) X.1.1 X.1.2.1 X.2.1 hH.1 (wn_D n0 C N) hH.self i 2 (cA := Γ.2.1 2) (n := n) (f := f) (by rw [wn_get hi, hC]) rfl (inb_vp hin) hdg (fun H1 locs1 hP _ hS => W_size (fun hz => ?_))
  rw [wn_set hi, zb_vp hx] at hP
  exact kk H1 locs1 (hH.step hP hS hz)
theorem n_lst (X : MN Γ p s m args meth c cc nL own nm) (hH : HN n0 Γ C N s.heap H locs cells) {i n : Nat} {f : Nat → Int64} (hi : i < N) (hC : C i = .inl (Γ.2.1 1, n, .inr (.inl f))) {j : Int32} {x : Int64} (hin : inb j n = true) (hdg : decode cc pc = .ok (.lastore, 1))
    (kk : ∀ H1 locs1, HN n0 Γ (updE C i (.inl (Γ.2.1 1, n, .inr (.inl (vp_updL f j.toNatClampNeg x))))) N s.heap H1 locs1 cells → W p l e R s m args below meth c H1 locs1 cells slots Q (F0 m (pc + 1) ls rest)) : W p l e R s m args below meth c H locs cells slots Q (F0 m pc ls (.long x :: .int j :: .ref (n0 + i) :: rest)) := by
  refine va_last (A := fun q => n0 ≤ q) (H0 := H) (ws := wn n0 C N) X.1.1 X.1.2.1 X.2.1 hH.1 (wn_D n0 C N) hH.self i 1 (cA := Γ.2.1 1) (n := n) (f := f) (by rw [wn_get hi, hC]) rfl (inb_vp hin) hdg (fun H1 locs1 hP _ hS => W_size (fun hz => ?_))
  rw [wn_set hi] at hP
  exact kk H1 locs1 (hH.step hP hS hz)
theorem n_ast (X : MN Γ p s m args meth c cc nL own nm) (hH : HN n0 Γ C N s.heap H locs cells) {i n k : Nat} {f : Nat → Option Nat} {vs : List Value} (hi : i < N) (hC : C i = .inl (Γ.2.1 3, n, .inr (.inr (.inr (.inr f))))) (hk : k < N) (hCk : C k = .inr (2, vs)) {j : Int32} (hin : inb j n = true) (hdg : decode cc pc = .ok (.aastore, 1))
    (kk : ∀ H1 locs1, HN n0 Γ (updE C i (.inl (Γ.2.1 3, n, .inr (.inr (.inr (.inr (va_up f j.toNatClampNeg (some (n0 + k))))))))) N s.heap H1 locs1 cells → W p l e R s m args below meth c H1 locs1 cells slots Q (F0 m (pc + 1) ls rest)) : W p l e R s m args below meth c H locs cells slots Q (F0 m pc ls (.ref (n0 + k) :: .int j :: .ref (n0 + i) :: rest)) := by
  refine va_astq (A := fun q => n0 ≤ q) (H0 := H) (ws := wn n0 C N) X.1.1 X.1.2.1 X.2.1 hH.1 (wn_D n0 C N) hH.self i 3 k 2 (cA := Γ.2.1 3) (n := n) (f := f) (vs := vs) (r := (RX5, TX5, 10)) (by rw [wn_get hi, hC]) rfl (by rw [wn_get hk, hCk]) rfl (inb_vp hin) hdg (fun H1 locs1 hP _ hS => W_size (fun hz => ?_))
  rw [wn_set hi] at hP
  exact kk H1 locs1 (hH.step hP hS hz)
theorem n_lenq (X : MN Γ p s m args meth c cc nL own nm) (hH : HN n0 Γ C N s.heap H locs cells) {i n : Nat} {f : Nat → Option Nat} (hi : i < N) (hC : C i = .inl (Γ.2.1 3, n, .inr (.inr (.inr (.inr f))))) {v : Int32} (hv : Int32.ofNat n = v) (hdg : decode cc pc = .ok (.arraylength, 1))
    (kk : W p l e R s m args below meth c H locs cells slots Q (F0 m (pc + 1) ls (.int v :: rest))) : W p l e R s m args below meth c H locs cells slots Q (F0 m pc ls (.ref (n0 + i) :: rest)) :=
  va_alen X.1.1 X.1.2.1 X.2.1 hH.1 i 3 (cA := Γ.2.1 3) (x := (n, .inr (.inr (.inr (.inr f))))) (by rw [wn_get hi, hC]) rfl hv hdg kk
-- calls and ends
theorem cn_blind {as : List Value} : FrameBlind (va_Pc as (CN n0 Γ C N)) := fun a U g mk q => ⟨q.1, q.2.1, q.2.2.1, va_K.moved (u := U) (U := U.calling g mk a) (Vm.Alike.refl U.vm) q.2.2.2.1, q.2.2.2.2.call g mk a⟩
theorem CN.of (X : MN Γ p s m args meth c cc nL own nm) (hH : HN n0 Γ C N s.heap H locs cells) {U : State} (hU : U.heap = H) (hW : s.WarmedH U.vm) : CN n0 Γ C N U := ⟨by rw [hU]; exact hH.1, by rw [hU]; exact hH.2.1, va_K.moved hW.alike X.2.1, X.2.2.1.warm hW⟩
variable {y : MethodName} {bytes : ByteArray} {maxL n index k ms i : Nat} {rm : Room} {As st0 : List Value} {lv : List (Nat × Value)} {C' : Nat → va_E}
theorem HN.back (hH : HN n0 Γ C N s.heap H locs cells) {t : State} {H1 : Heap} {locs1 : List Loc} (ht : t.heap = H1) (hB : CN n0 Γ C' (N + k) t) (hS : va_S (fun q => n0 ≤ q) s.heap H1 locs1) : HN n0 Γ C' (N + k) s.heap H1 locs1 (cells + k) := ⟨by rw [← ht]; exact hB.1, by rw [← ht]; exact hB.2.1, hS, by have := hH.2.2.2.1; omega, hH.2.2.2.2⟩
theorem n_callI (X : MN Γ p s m args meth c cc nL own nm) (hl : lv_has ls nL lv) (hH : HN n0 Γ C N s.heap H locs cells) (hM : KN l y (wy y bytes maxL none) rm n0 Γ C N (.ref (n0 + i) :: As) C' k ms) (hc : Cond.code y bytes maxL none ∈ wL) (h1 : Cond.methodLink own index y ∈ wL) (h2 : Cond.instanceMethod y ∈ wL) (h4 : Cond.initialized y.cls ∈ wL) (hy : y.name = "<init>") (hrc : rm.cells = k) (hrs : rm.slots = ms) (hd : y.cls ≠ "java/lang/invoke/MethodHandle" ∧ y.cls ≠ "java/lang/invoke/VarHandle" ∧ (parseMethodDescriptor y.desc).map (fun d => d.parameters.length) = some n) (hR : rm.frames + 1 ≤ R.frames ∧ 8 + (maxL + 11) + rm.locals ≤ R.locals) (hn : As.length = n) (hst : st0 = As.reverse ++ .ref (n0 + i) :: rest) (hW : (rest.map fun v => v.category).sum ≤ 8) (hdg : decode cc pc = .ok (.invokespecial index, 3)) (hf : cells + k ≤ R.cells ∧ slots + ms ≤ R.slots)
    (kk : ∀ H1 locs1, HN n0 Γ C' (N + k) s.heap H1 locs1 (cells + k) → W p l e R s m args below meth c H1 locs1 (cells + k) (slots + ms) Q (F0 m (pc + 3) ls rest)) : W p l e R s m args below meth c H locs cells slots Q (F0 m pc ls st0) :=
  va_callv (va_runI (As := As) (rest := rest) X.1 hM ⟨callB_of n X.1.2.2.2.2 (wy_good hc) rfl hrc hrs (X.1.2.2.2.2 _ h4) (X.1.2.2.2.2 _ h1) hd hR, hy, X.1.2.2.2.2 _ h2⟩ ⟨cn_blind, fun U hU hW => ⟨rfl, CN.of X hH hU hW⟩⟩ rfl hn hl.1 hst (lv_room hW) hdg hf) hH.2.2.1 (fun q _ h => h) (fun q h => h) (fun u t H1 locs1 ht _ hw hB _ _ hS => kk H1 locs1 (hH.back ht hB hS))
theorem n_callIN (X : MN Γ p s m args meth c cc nL own nm) (hl : lv_has ls nL lv) (hH : HN n0 Γ C N s.heap H locs cells) {host : String} (hM : KN l y (wy y bytes maxL none) rm n0 Γ C N (.ref (n0 + i) :: As) C' k ms) (hc : Cond.code y bytes maxL none ∈ wL) (h1 : va_Nw (.methodLinkNest own index y host) s) (h2 : Cond.instanceMethod y ∈ wL) (h4 : Cond.initialized y.cls ∈ wL) (hy : y.name = "<init>") (hrc : rm.cells = k) (hrs : rm.slots = ms) (hd : y.cls ≠ "java/lang/invoke/MethodHandle" ∧ y.cls ≠ "java/lang/invoke/VarHandle" ∧ (parseMethodDescriptor y.desc).map (fun d => d.parameters.length) = some n) (hR : rm.frames + 1 ≤ R.frames ∧ 8 + (maxL + 11) + rm.locals ≤ R.locals) (hn : As.length = n) (hst : st0 = As.reverse ++ .ref (n0 + i) :: rest) (hW : (rest.map fun v => v.category).sum ≤ 8) (hdg : decode cc pc = .ok (.invokespecial index, 3)) (hf : cells + k ≤ R.cells ∧ slots + ms ≤ R.slots)
    (kk : ∀ H1 locs1, HN n0 Γ C' (N + k) s.heap H1 locs1 (cells + k) → W p l e R s m args below meth c H1 locs1 (cells + k) (slots + ms) Q (F0 m (pc + 3) ls rest)) : W p l e R s m args below meth c H locs cells slots Q (F0 m pc ls st0) :=
  va_callv (va_runIN (As := As) (rest := rest) X.1 hM ⟨va_cnB n X.1.2.2.2.2 (wy_good hc) rfl hrc hrs h1 (X.1.2.2.2.2 _ h4) hd hR, hy, X.1.2.2.2.2 _ h2⟩ ⟨cn_blind, fun U hU hW => ⟨rfl, CN.of X hH hU hW⟩⟩ rfl hn hl.1 hst (lv_room hW) hdg hf) hH.2.2.1 (fun q _ h => h) (fun q h => h) (fun u t H1 locs1 ht _ hw hB _ _ hS => kk H1 locs1 (hH.back ht hB hS))
theorem n_callV (X : MN Γ p s m args meth c cc nL own nm) (hl : lv_has ls nL lv) (hH : HN n0 Γ C N s.heap H locs cells) {ci : Nat} {q : vw_C} {fs : List Value} (hi : i < N) (hC : C i = .inr (ci, fs)) (hq : vwCl[ci]? = some q) (hq1 : q.1 = y.cls) (hM : KN l y (wy y bytes maxL none) rm n0 Γ C N (.ref (n0 + i) :: As) C' 0 0) (hc : Cond.code y bytes maxL none ∈ wL) (h1 : Cond.methodLink own index y ∈ wL) (h2 : Cond.instanceMethod y ∈ wL) (h3 : Cond.selects y.cls y y ∈ wL) (h4 : Cond.initialized y.cls ∈ wL) (hrc : rm.cells = 0) (hrs : rm.slots = 0) (hd : y.cls ≠ "java/lang/invoke/MethodHandle" ∧ y.cls ≠ "java/lang/invoke/VarHandle" ∧ (parseMethodDescriptor y.desc).map (fun d => d.parameters.length) = some n) (hR : rm.frames + 1 ≤ R.frames ∧ 8 + (maxL + 11) + rm.locals ≤ R.locals) (hn : As.length = n) (hst : st0 = As.reverse ++ .ref (n0 + i) :: rest) (hW : (rest.map fun v => v.category).sum ≤ 8) (hdg : decode cc pc = .ok (.invokevirtual index, 3)) (hf : cells ≤ R.cells ∧ slots ≤ R.slots)
    (kk : ∀ H1 locs1, HN n0 Γ C' N s.heap H1 locs1 cells → W p l e R s m args below meth c H1 locs1 cells slots Q (F0 m (pc + 3) ls rest)) : W p l e R s m args below meth c H locs cells slots Q (F0 m pc ls st0) := by
  have hr : ∃ cell : Cell, H[n0 + i]? = some cell ∧ cell.vm.isStatics = false ∧ s.vm.findClass q.1 = some cell.cls := va_recv X.2.1 hH.1 hq (q0 := i) (fs := fs) (by rw [wn_get hi, hC])
  rw [hq1] at hr
  exact va_callv (va_runV (As := As) (rest := rest) X.1 hM ⟨callB_of n X.1.2.2.2.2 (wy_good hc) rfl hrc hrs (X.1.2.2.2.2 _ h4) (X.1.2.2.2.2 _ h1) hd hR, X.1.2.2.2.2 _ h2, X.1.2.2.2.2 _ h3⟩ ⟨cn_blind, hr, fun U hU hW => ⟨rfl, CN.of X hH hU hW⟩⟩ rfl hn hl.1 hst (lv_room hW) hdg hf) hH.2.2.1 (fun q _ h => h) (fun q h => h) (fun u t H1 locs1 ht _ hw hB _ _ hS => kk H1 locs1 (hH.back (k := 0) ht hB hS))
theorem n_callSL (X : MN Γ p s m args meth c cc nL own nm) (hl : lv_has ls nL lv) (hH : HN n0 Γ C N s.heap H locs cells) {v : Int64} {ret : Option FieldType} (hM : KL l y (wy y bytes maxL ret) rm n0 Γ C N As v) (hc : Cond.code y bytes maxL ret ∈ wL) (h1 : Cond.methodLink own index y ∈ wL) (h2 : Cond.static y ∈ wL) (h4 : Cond.initialized y.cls ∈ wL) (hrc : rm.cells = 0) (hrs : rm.slots = 0) (hd : y.cls ≠ "java/lang/invoke/MethodHandle" ∧ y.cls ≠ "java/lang/invoke/VarHandle" ∧ (parseMethodDescriptor y.desc).map (fun d => d.parameters.length) = some n) (hR : rm.frames + 1 ≤ R.frames ∧ 8 + (maxL + 11) + rm.locals ≤ R.locals) (hn : As.length = n) (hst : st0 = As.reverse ++ rest) (hW : (rest.map fun v => v.category).sum ≤ 8) (hdg : decode cc pc = .ok (.invokestatic index, 3)) (hf : cells ≤ R.cells ∧ slots ≤ R.slots)
    (kk : ∀ H1 locs1, HN n0 Γ C N s.heap H1 locs1 cells → W p l e R s m args below meth c H1 locs1 cells slots Q (F0 m (pc + 3) ls (.long v :: rest))) : W p l e R s m args below meth c H locs cells slots Q (F0 m pc ls st0) :=
  va_calll (va_runS (As := As) (rest := rest) X.1 hM ⟨callB_of n X.1.2.2.2.2 (wy_good hc) rfl hrc hrs (X.1.2.2.2.2 _ h4) (X.1.2.2.2.2 _ h1) hd hR, X.1.2.2.2.2 _ h2⟩ ⟨cn_blind, fun U hU hW => ⟨rfl, CN.of X hH hU hW⟩⟩ rfl hn hl.1 hst (lv_room hW) hdg hf) hH.2.2.1 (fun q _ h => h) (fun q h => h) (fun r u t H1 locs1 ht _ hw hB _ _ hS => by
    subst hw
    exact kk H1 locs1 (hH.back (k := 0) ht hB hS))
theorem n_ret (X : MN Γ p s m args meth c cc nL own nm) (hr : meth.sig.returnType = none) (hH : HN n0 Γ C (N + k) s.heap H locs cells) (hC : ∀ j, j < N + k → C j = C' j) (hk : cells = k) (hs : slots ≤ ms) (hdg : decode cc pc = .ok (.return_, 1)) : W p l e R s m args below meth c H locs cells slots (MQ below (va_Qv (fun (_ : Unit) => True) (fun _ t => CN n0 Γ C' (N + k) t) (fun q => n0 ≤ q)) args s k ms (fun q => n0 ≤ q)) (F0 m pc ls []) := by
  subst hk
  refine W.widen (k := cells) (n := ms) (Nat.le_refl _) hs ?_
  exact W.vret X.1.1 X.1.2.1 hr (fun t ht hW => ⟨⟨(), rfl, trivial, CN.of X (hH.c hC) ht hW⟩, hH.2.2.1.F ht⟩) hH.2.2.1.2.2 hdg (hlocks := X.2.2.2.2)
theorem n_lret (X : MN Γ p s m args meth c cc nL own nm) (hr : meth.sig.returnType = some .long) (hH : HN n0 Γ C N s.heap H locs 0) {v : Int64} (hdg : decode cc pc = .ok (.lreturn, 1)) : W p l e R s m args below meth c H locs 0 0 (MQ below (va_Ql (fun (x : Int64) (_ : Unit) => x = v) (fun _ t => CN n0 Γ C N t) (fun q => n0 ≤ q)) args s 0 0 (fun q => n0 ≤ q)) (F0 m pc ls [.long v]) :=
  W.lret X.1.1 X.1.2.1 hr (fun t ht hW => ⟨⟨v, (), rfl, rfl, CN.of X hH ht hW⟩, hH.2.2.1.F ht⟩) hH.2.2.1.2.2 hdg (hlocks := X.2.2.2.2)
/-- Object's own constructor -/
theorem n_obj (X : MN Γ p s m args meth c cc nL own nm) (hl : lv_has ls nL lv) {idx : Nat} (h1 : Cond.methodLink own idx objectInit ∈ wL) {a : Addr} (hR : 1 ≤ R.frames ∧ (rest.map fun v => v.category).sum + 12 ≤ R.locals) (hdg : decode cc pc = .ok (.invokespecial idx, 3))
    (kk : W p l e R s m args below meth c H locs cells slots Q (F0 m (pc + 3) ls rest)) : W p l e R s m args below meth c H locs cells slots Q (F0 m pc ls (.ref a :: rest)) := by
  refine W.objInit X.1.1 X.1.2.1 X.1.2.2.2.1 (X.1.2.2.2.2 _ h1) (X.1.2.2.2.2 _ (List.mem_of_getElem? (i := 8) (by decide +kernel))) (X.1.2.2.2.2 _ (List.mem_of_getElem? (i := 9) (by decide +kernel))) rfl (by rw [X.1.2.2.1]; exact hl.1) rfl hdg hR.1 (by have := hR.2; show 2 * (F0 m pc ls (.ref a :: rest)).monitorRoom + _ + 12 ≤ _; rw [show (F0 m pc ls (.ref a :: rest)).monitorRoom = 0 from rfl]; omega) ?_
  exact kk
end NROWS
/-- a contract out of the walk of its body -/
theorem met_ofN {l : Launch} {y : MethodName} {cc : ByteArray} {maxL : Nat} {ret : Option FieldType} {rm : Room} {n0 N k ms : Nat} {Γ : GG} {C : Nat → va_E} {as : List Value} {Qc : Array Value → State → Outcome → State → Prop} (hy : plainName y.cls = true) (hlen : (lg_sl as).length ≤ maxL)
    (body : ∀ (p : Program) (e : Env) (s : State) (m : MethodId) (below : List Frame) (meth : Method) (c : Code) (ls : Array Slot), MN Γ p s m as.toArray meth c cc maxL y.cls y.name → meth.sig.returnType = ret → HN n0 Γ C N s.heap s.heap [] 0 → lv_has ls maxL (lv_args 0 as) → W p l e rm s m as.toArray below meth c s.heap [] 0 0 (MQ below Qc as.toArray s k ms (fun q => n0 ≤ q)) (F0 m 0 ls [])) :
    Met l y (wy y cc maxL ret) rm (va_Pc as (CN n0 Γ C N)) Qc k ms (fun q => n0 ≤ q) := by
  refine Met.ofW (cc := cc) (maxL := maxL) (ret := ret) hy rfl ?_
  intro p e s m args below meth c s₁ B hml hv
  obtain ⟨rfl, hP, hz, hK, hN⟩ := hv
  have hts := atoms_spec (ws := wy y cc maxL ret) B.pre
  have hl := lv_entry as hlen
  rw [lg_entry_eq]
  exact body p e s m below meth c _ ⟨⟨B.exec, B.bytes, hml, findClass_of_methodNamed B.named, fun w hw => hts w (List.mem_cons_of_mem _ hw)⟩, hK, hN, (name_of_methodNamed B.named B.method).1, B.notSynchronized⟩ B.returns ⟨hP, hz, va_S.rf, by omega, by omega⟩ hl
