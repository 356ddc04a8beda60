/-! ROWS over the whole memory: one for each kind of access, call and end -/
abbrev wL : List Cond := wsL_law0
theorem inlX3 : ∀ w ∈ wsX30, w ∈ wL := fun _ h => List.mem_append_left _ (List.mem_append_right _ h)
theorem inlX4 : ∀ w ∈ wsX40, w ∈ wL := fun _ h => List.mem_append_left _ (List.mem_append_left _ (List.mem_append_left _ (List.mem_append_left _ (List.mem_append_left _ (List.mem_append_left _ (List.mem_append_right _ h))))))
theorem inlX5 : ∀ w ∈ wsX50, w ∈ wL := fun _ h => List.mem_append_left _ (List.mem_append_left _ (List.mem_append_right _ h))
theorem inlX6 : ∀ w ∈ wsX60, w ∈ wL := fun _ h => List.mem_append_left _ (List.mem_append_left _ (List.mem_append_left _ (List.mem_append_left _ (List.mem_append_left _ (List.mem_append_right _ h)))))
theorem inlX7 : ∀ w ∈ wsX70, w ∈ wL := fun _ h => List.mem_append_left _ (List.mem_append_left _ (List.mem_append_left _ (List.mem_append_right _ h)))
theorem inlX8 : ∀ w ∈ wsX80, w ∈ wL := fun _ h => List.mem_append_left _ (List.mem_append_left _ (List.mem_append_left _ (List.mem_append_left _ (List.mem_append_left _ (List.mem_append_left _ (List.mem_append_left _ (List.mem_append_right _ h)))))))
theorem inlX9 : ∀ w ∈ wsX90, w ∈ wL := fun _ h => List.mem_append_left _ (List.mem_append_left _ (List.mem_append_left _ (List.mem_append_left _ (List.mem_append_right _ h))))
theorem inlX10 : ∀ w ∈ wsX100, w ∈ wL := fun _ h => List.mem_append_left _ (List.mem_append_left _ (List.mem_append_left _ (List.mem_append_left _ (List.mem_append_left _ (List.mem_append_left _ (List.mem_append_left _ (List.mem_append_left _ (List.mem_append_right _ h))))))))
theorem wL_good : wL.all goodWord = true := by decide +kernel
def IJ (Γ : GG) : Prop := ∀ i j, i < 440 → j < 440 → adr Γ i = adr Γ j → i = j
def IA (Γ : GG) : Nat → Prop := fun q => ∃ k, k < 440 ∧ q = adr Γ k
/-- a nest mate's private method -/
abbrev wN : Cond := .methodLinkNest RX3 108 yX10_clear RX10
def CP (Γ : GG) (σ : Sg) (U : State) : Prop := va_P Γ.1 vwCl (wd Γ σ) U.heap ∧ va_K Γ.1 vwCl (tyl Γ) U ∧ va_Nw wN U
/-- what a walk knows of its method -/
def MX (A : Nat → Prop) (Γ : GG) (p : Program) (s : State) (m : MethodId) (args : Array Value) (c : Code) (cc : ByteArray) (nL : Nat) (own : String) : Prop :=
  p.tables.exec = Jvm.exec ∧ c.code = cc ∧ c.maxLocals = nL ∧ s.vm.findClass own = some m.cls ∧ (∀ w ∈ wL, w.before args s = true) ∧ va_K Γ.1 vwCl (tyl Γ) s ∧ IJ Γ ∧ (∀ k, k < 440 → A (adr Γ k)) ∧ va_Nw wN s
/-- the memory at a moment -/
def HW (A : Nat → Prop) (Γ : GG) (σ : Sg) (H0 H : Heap) (locs : List Loc) : Prop := va_P Γ.1 vwCl (wd Γ σ) H ∧ va_S A H0 H locs
theorem wd_D {A : Nat → Prop} {Γ : GG} (σ : Sg) (hJ : IJ Γ) (hA : ∀ k, k < 440 → A (adr Γ k)) : va_D A (wd Γ σ) := by
  have key : ∀ (k : Nat) (q : Nat × va_E), (wd Γ σ)[k]? = some q → k < 440 ∧ q.1 = adr Γ k := by
    intro k q hk
    have hl := (List.getElem?_eq_some_iff.mp hk).1
    rw [wd_len] at hl
    rw [wd_get hl] at hk
    cases hk
    exact ⟨hl, rfl⟩
  refine ⟨fun i j x y hi hj hxy => ?_, fun k q hk => ?_⟩
  · obtain ⟨h1, h2⟩ := key i x hi
    obtain ⟨h3, h4⟩ := key j y hj
    exact hJ i j h1 h3 (by rw [← h2, ← h4, hxy])
  · obtain ⟨h1, h2⟩ := key k q hk
    rw [h2]; exact hA k h1
/-- a test; what it gives -/
def inb (x : Int32) (n : Nat) : Bool := decide (0 ≤ x.toInt) && decide (x.toInt < (n : Int))
theorem inb_vp {x : Int32} {n : Nat} (h : inb x n = true) : vp_in x n := by
  simp only [inb, Bool.and_eq_true, decide_eq_true_eq] at h
  exact vp_in_iff.mpr h
def chk {α : Type} (b : Bool) (k : Option α) : Option α := match b with
  | true => k
  | false => none
theorem chk_some {α : Type} {b : Bool} {k : Option α} {r : α} (h : chk b k = some r) : b = true ∧ k = some r := by
  cases b
  · cases h
  · exact ⟨rfl, h⟩
def bnd {α β : Type} (a : Option α) (k : α → Option β) : Option β := match a with
  | some x => k x
  | none => none
theorem bnd_some {α β : Type} {a : Option α} {k : α → Option β} {r : β} (h : bnd a k = some r) : ∃ x, a = some x ∧ k x = some r := by
  cases a with
  | none => cases h
  | some x => exact ⟨x, rfl, h⟩
def bnd2 {α β γ : Type} (a : Option (α × β)) (k : α → β → Option γ) : Option γ := match a with
  | some x => k x.1 x.2
  | none => none
theorem bnd2_some {α β γ : Type} {a : Option (α × β)} {k : α → β → Option γ} {r : γ} (h : bnd2 a k = some r) : ∃ x y, a = some (x, y) ∧ k x y = some r := by
  cases a with
  | none => cases h
  | some x => exact ⟨x.1, x.2, rfl, h⟩
def st {α β : Type} (x : α) (k : α → Option β) : Option β := k x
theorem st_some {α β : Type} {x : α} {k : α → Option β} {r : β} (h : st x k = some r) : ∃ y, y = x ∧ k y = some r := ⟨x, rfl, h⟩
theorem if_t {α : Type} {c : Prop} [Decidable c] {a b : Option α} {r : α} (h : (if c then a else b) = some r) (hc : c) : a = some r := by rwa [if_pos hc] at h
theorem if_f {α : Type} {c : Prop} [Decidable c] {a b : Option α} {r : α} (h : (if c then a else b) = some r) (hc : ¬ c) : b = some r := by rwa [if_neg hc] at h
def zb (x : Int32) : Bool := x == 0 || x == 1
theorem zb_nar {x : Int32} (h : zb x = true) : narrow .boolean (.int x) = .int x := by
  simp only [zb, Bool.or_eq_true, beq_iff_eq] at h
  rcases h with rfl | rfl <;> rfl
theorem zb_vp {x : Int32} (h : zb x = true) : vp_nar .boolean x = x := by
  simp only [zb, Bool.or_eq_true, beq_iff_eq] at h
  rcases h with rfl | rfl <;> rfl
section ROWS
variable {p : Program} {l : Launch} {e : Env} {R : Room} {s : State} {m : MethodId} {args : Array Value} {below : List Frame} {meth : Method} {c : Code} {H : Heap} {locs : List Loc} {cells slots : Nat} {Q : State → Prop}
variable {cc : ByteArray} {pc nL : Nat} {ls : Array Slot} {rest : List Value} {own : String} {A : Nat → Prop} {Γ : GG} {σ : Sg} {H0 : Heap}
theorem MX.hx (X : MX A Γ p s m args c cc nL own) : p.tables.exec = Jvm.exec := X.1
theorem MX.hb (X : MX A Γ p s m args c cc nL own) : c.code = cc := X.2.1
theorem MX.hts (X : MX A Γ p s m args c cc nL own) : ∀ w ∈ wL, w.before args s = true := X.2.2.2.2.1
theorem MX.D (X : MX A Γ p s m args c cc nL own) (σ : Sg) : va_D A (wd Γ σ) := wd_D σ X.2.2.2.2.2.2.1 X.2.2.2.2.2.2.2.1
theorem r_get (X : MX A Γ p s m args c cc nL own) (hH : HW A Γ σ H0 H locs) {k ci o n index N : Nat} {C : String} {T : u_T} (hk : k < 440) (hd : desc k = (4, ci, o, n)) (hc : vwCl[ci]? = some (C, T, N)) (hin : ∀ w ∈ u_ws C T N, w ∈ wL) (j : Nat) (hj : j < N) {v : Value} (hv : (objF Γ σ ci o)[j]? = some v)
    (hw : Cond.fieldLink own index (T j).1 (T j).2.1 (T j).2.2.1 ∈ wL) (hdg : decode cc pc = .ok (.getfield index, 3))
    (kk : W p l e R s m args below meth c H locs cells slots Q (F0 m (pc + 3) ls (v :: rest))) : W p l e R s m args below meth c H locs cells slots Q (F0 m pc ls (.ref (adr Γ k) :: rest)) := by
  refine va_get (ci := ci) X.1 X.2.1 X.2.2.2.2.1 hin X.2.2.2.1 X.2.2.2.2.2.1 hH.1 k (fs := objF Γ σ ci o) ?_ hc j hj (X.2.2.2.2.1 _ hw) (fun _ h => h) hv hdg kk
  rw [wd_get hk, hd]; rfl
theorem r_putI (X : MX A Γ p s m args c cc nL own) (hH : HW A Γ σ H0 H locs) {k co o n index N : Nat} {C : String} {T : u_T} (hk : k < 440) (hco : fldC co = true) (hd : desc k = (4, (fldOf co).1, o, n)) (hc : vwCl[(fldOf co).1]? = some (C, T, N)) (hin : ∀ w ∈ u_ws C T N, w ∈ wL) (ty0 : Nat → FieldType) (hty : ∀ k, k < N → parseFieldDescriptor (T k).2.2.1 = some (ty0 k)) (hnm : ∀ a, a < N → ∀ b, b < N → a ≠ b → (T a).2.1 ≠ (T b).2.1)
    (hj : (fldOf co).2 < N) (hl : (fldOf co).2 < (objF Γ σ (fldOf co).1 o).length) {v : Int32} (hfin : (T (fldOf co).2).2.2.2 = false) (hpd : parseFieldDescriptor (T (fldOf co).2).2.2.1 = some .int)
    (hw : Cond.fieldLink own index (T (fldOf co).2).1 (T (fldOf co).2).2.1 (T (fldOf co).2).2.2.1 ∈ wL) (hdg : decode cc pc = .ok (.putfield index, 3))
    (kk : ∀ H1 locs1, HW A Γ (wI σ co o 0 v) H0 H1 locs1 → W p l e R s m args below meth c H1 locs1 cells slots Q (F0 m (pc + 3) ls rest)) : W p l e R s m args below meth c H locs cells slots Q (F0 m pc ls (.int v :: .ref (adr Γ k) :: rest)) := by
  refine va_put (ci := (fldOf co).1) X.1 X.2.1 X.2.2.2.2.1 hin ty0 hty hnm X.2.2.2.1 X.2.2.2.2.2.1 hH.1 (X.D σ) hH.2 k (fs := objF Γ σ (fldOf co).1 o) ?_ hc (fldOf co).2 hj (X.2.2.2.2.1 _ hw) (fun _ h => h) hfin hpd rfl rfl hl hdg (fun H1 locs1 hP _ hS => kk H1 locs1 ⟨?_, hS⟩)
  · rw [wd_get hk, hd]; rfl
  · rw [wd_fld hk hco hd] at hP; exact hP
theorem r_ild (X : MX A Γ p s m args c cc nL own) (hH : HW A Γ σ H0 H locs) {k co o n : Nat} (hk : k < 440) (hd : desc k = (0, co, o, n)) {i : Int32} (hin : inb i n = true) (hdg : decode cc pc = .ok (.iaload, 1))
    (kk : W p l e R s m args below meth c H locs cells slots Q (F0 m (pc + 1) ls (.int (σ.1 co o i.toNatClampNeg) :: rest))) : W p l e R s m args below meth c H locs cells slots Q (F0 m pc ls (.int i :: .ref (adr Γ k) :: rest)) :=
  va_iald X.1 X.2.1 X.2.2.2.2.2.1 hH.1 k 0 (cA := Γ.2.1 0) (n := n) (f := σ.1 co o) (by rw [wd_get hk, hd]; rfl) rfl (inb_vp hin) hdg kk
theorem r_zld (X : MX A Γ p s m args c cc nL own) (hH : HW A Γ σ H0 H locs) {k co o n : Nat} (hk : k < 440) (hd : desc k = (2, co, o, n)) {i : Int32} (hin : inb i n = true) (hdg : decode cc pc = .ok (.baload, 1))
    (kk : W p l e R s m args below meth c H locs cells slots Q (F0 m (pc + 1) ls (.int (σ.1 co o i.toNatClampNeg) :: rest))) : W p l e R s m args below meth c H locs cells slots Q (F0 m pc ls (.int i :: .ref (adr Γ k) :: rest)) :=
  va_zald X.1 X.2.1 X.2.2.2.2.2.1 hH.1 k 2 (cA := Γ.2.1 2) (n := n) (f := σ.1 co o) (by rw [wd_get hk, hd]; rfl) rfl (inb_vp hin) hdg kk
theorem r_lld (X : MX A Γ p s m args c cc nL own) (hH : HW A Γ σ H0 H locs) {k co o n : Nat} (hk : k < 440) (hd : desc k = (1, co, o, n)) {i : Int32} (hin : inb i n = true) (hdg : decode cc pc = .ok (.laload, 1))
    (kk : W p l e R s m args below meth c H locs cells slots Q (F0 m (pc + 1) ls (.long (σ.2.1 co o i.toNatClampNeg) :: rest))) : W p l e R s m args below meth c H locs cells slots Q (F0 m pc ls (.int i :: .ref (adr Γ k) :: rest)) :=
  va_lald X.1 X.2.1 X.2.2.2.2.2.1 hH.1 k 1 (cA := Γ.2.1 1) (n := n) (f := σ.2.1 co o) (by rw [wd_get hk, hd]; rfl) rfl (inb_vp hin) hdg kk
theorem r_ald (X : MX A Γ p s m args c cc nL own) (hH : HW A Γ σ H0 H locs) {k co o n r : Nat} (hk : k < 440) (hd : desc k = (3, co, o, n)) {i : Int32} (hin : inb i n = true) (hr : σ.2.2 co o i.toNatClampNeg = some r) (hdg : decode cc pc = .ok (.aaload, 1))
    (kk : W p l e R s m args below meth c H locs cells slots Q (F0 m (pc + 1) ls (.ref (adr Γ (kR r)) :: rest))) : W p l e R s m args below meth c H locs cells slots Q (F0 m pc ls (.int i :: .ref (adr Γ k) :: rest)) := by
  refine va_aldq X.1 X.2.1 X.2.2.2.2.2.1 hH.1 k 3 (cA := Γ.2.1 3) (n := n) (f := rrow Γ σ co o) (by rw [wd_get hk, hd]; rfl) rfl (inb_vp hin) hdg ?_
  rw [rrow, hr]; exact kk
theorem r_ist (X : MX A Γ p s m args c cc nL own) (hH : HW A Γ σ H0 H locs) {k co o n : Nat} (hk : k < 440) (hd : desc k = (0, co, o, n)) {i x : Int32} (hin : inb i n = true) (hdg : decode cc pc = .ok (.iastore, 1))
    (kk : ∀ H1 locs1, HW A Γ (wI σ co o i.toNatClampNeg x) H0 H1 locs1 → W p l e R s m args below meth c H1 locs1 cells slots Q (F0 m (pc + 1) ls rest)) : W p l e R s m args below meth c H locs cells slots Q (F0 m pc ls (.int x :: .int i :: .ref (adr Γ k) :: rest)) :=
  va_iast X.1 X.2.1 X.2.2.2.2.2.1 hH.1 (X.D σ) hH.2 k 0 (cA := Γ.2.1 0) (n := n) (f := σ.1 co o) (by rw [wd_get hk, hd]; rfl) rfl (inb_vp hin) hdg (fun H1 locs1 hP _ hS => kk H1 locs1 ⟨by rw [wd_rowI hk hd (Or.inl rfl)] at hP; exact hP, hS⟩)
theorem r_zst (X : MX A Γ p s m args c cc nL own) (hH : HW A Γ σ H0 H locs) {k co o n : Nat} (hk : k < 440) (hd : desc k = (2, co, o, n)) {i x : Int32} (hin : inb i n = true) (hx : zb x = true) (hdg : decode cc pc = .ok (.bastore, 1))
    (kk : ∀ H1 locs1, HW A Γ (wI σ co o i.toNatClampNeg x) H0 H1 locs1 → W p l e R s m args below meth c H1 locs1 cells slots Q (F0 m (pc + 1) ls rest)) : W p l e R s m args below meth c H locs cells slots Q (F0 m pc ls (.int x :: .int i :: .ref (adr Γ k) :: rest)) :=
  va_zast X.1 X.2.1 X.2.2.2.2.2.1 hH.1 (X.D σ) hH.2 k 2 (cA := Γ.2.1 2) (n := n) (f := σ.1 co o) (by rw [wd_get hk, hd]; rfl) rfl (inb_vp hin) hdg (fun H1 locs1 hP _ hS => kk H1 locs1 ⟨by rw [zb_vp hx, wd_rowI hk hd (Or.inr rfl)] at hP; exact hP, hS⟩)
theorem r_lst (X : MX A Γ p s m args c cc nL own) (hH : HW A Γ σ H0 H locs) {k co o n : Nat} (hk : k < 440) (hd : desc k = (1, co, o, n)) {i : Int32} {x : Int64} (hin : inb i n = true) (hdg : decode cc pc = .ok (.lastore, 1))
    (kk : ∀ H1 locs1, HW A Γ (wJ σ co o i.toNatClampNeg x) H0 H1 locs1 → W p l e R s m args below meth c H1 locs1 cells slots Q (F0 m (pc + 1) ls rest)) : W p l e R s m args below meth c H locs cells slots Q (F0 m pc ls (.long x :: .int i :: .ref (adr Γ k) :: rest)) :=
  va_last X.1 X.2.1 X.2.2.2.2.2.1 hH.1 (X.D σ) hH.2 k 1 (cA := Γ.2.1 1) (n := n) (f := σ.2.1 co o) (by rw [wd_get hk, hd]; rfl) rfl (inb_vp hin) hdg (fun H1 locs1 hP _ hS => kk H1 locs1 ⟨by rw [wd_rowJ hk hd] at hP; exact hP, hS⟩)
theorem r_ast (X : MX A Γ p s m args c cc nL own) (hH : HW A Γ σ H0 H locs) {k co o n r : Nat} (hk : k < 440) (hd : desc k = (3, co, o, n)) {i : Int32} (hin : inb i n = true) (hr : r < 30) (hdg : decode cc pc = .ok (.aastore, 1))
    (kk : ∀ H1 locs1, HW A Γ (wP σ co o i.toNatClampNeg r) H0 H1 locs1 → W p l e R s m args below meth c H1 locs1 cells slots Q (F0 m (pc + 1) ls rest)) : W p l e R s m args below meth c H locs cells slots Q (F0 m pc ls (.ref (adr Γ (kR r)) :: .int i :: .ref (adr Γ k) :: rest)) := by
  refine va_astq X.1 X.2.1 X.2.2.2.2.2.1 hH.1 (X.D σ) hH.2 k 3 (kR r) 2 (cA := Γ.2.1 3) (n := n) (f := rrow Γ σ co o) (vs := objF Γ σ 2 r) (r := (RX5, TX5, 10)) (by rw [wd_get hk, hd]; rfl) rfl (by rw [wd_get (kR_lt hr), dR0 r hr]; rfl) rfl (inb_vp hin) hdg (fun H1 locs1 hP _ hS => kk H1 locs1 ⟨?_, hS⟩)
  have h9 : va_up (rrow Γ σ co o) i.toNatClampNeg (some (adr Γ (kR r))) = fun j => (va_up (σ.2.2 co o) i.toNatClampNeg (some r) j).map (fun r => adr Γ (kR r)) := by
    funext j
    unfold va_up rrow
    split <;> rfl
  rw [h9, wd_rowP hk hd] at hP
  exact hP
theorem r_len (X : MX A Γ p s m args c cc nL own) (hH : HW A Γ σ H0 H locs) {k kn co o n : Nat} (hk : k < 440) (hd : desc k = (kn, co, o, n)) (hkn : kn < 4) {v : Int32} (hv : Int32.ofNat n = v) (hdg : decode cc pc = .ok (.arraylength, 1))
    (kk : W p l e R s m args below meth c H locs cells slots Q (F0 m (pc + 1) ls (.int v :: rest))) : W p l e R s m args below meth c H locs cells slots Q (F0 m pc ls (.ref (adr Γ k) :: rest)) := by
  have h9 : ∃ x : vp_A, cellQ Γ σ (desc k) = .inl (Γ.2.1 kn, x) ∧ x.1 = n := by
    rw [hd]
    have h : kn = 0 ∨ kn = 1 ∨ kn = 2 ∨ kn = 3 := by omega
    rcases h with rfl | rfl | rfl | rfl <;> exact ⟨_, rfl, rfl⟩
  obtain ⟨x, h1, h2⟩ := h9
  have h3 : ∃ ty, (tyl Γ)[kn]? = some (Γ.2.1 kn, ty) := by
    have h : kn = 0 ∨ kn = 1 ∨ kn = 2 ∨ kn = 3 := by omega
    rcases h with rfl | rfl | rfl | rfl <;> exact ⟨_, rfl⟩
  obtain ⟨ty, h3⟩ := h3
  exact va_alen X.1 X.2.1 X.2.2.2.2.2.1 hH.1 k kn (cA := Γ.2.1 kn) (x := x) (by rw [wd_get hk, h1]) h3 (by rw [h2]; exact hv) hdg kk
theorem r_anelo (X : MX A Γ p s m args c cc nL own) {r1 r2 : Nat} (h1 : r1 < 30) (h2 : r2 < 30) {off : Int} {tgt : Nat} (hdg : decode cc pc = .ok (.if_acmp .ne off, 3)) (ht : (pc : Int) + off = (tgt : Int))
    (kt : ¬ r1 = r2 → W p l e R s m args below meth c H locs cells slots Q (F0 m tgt ls rest)) (kf : r1 = r2 → W p l e R s m args below meth c H locs cells slots Q (F0 m (pc + 3) ls rest)) : W p l e R s m args below meth c H locs cells slots Q (F0 m pc ls (.ref (adr Γ (kR r2)) :: .ref (adr Γ (kR r1)) :: rest)) :=
  lv_acmp_ne (rx := some (adr Γ (kR r1))) (ry := some (adr Γ (kR r2))) X.1 X.2.1 hdg ht (fun h => kt (fun q => h (by rw [q]))) (fun h => kf (by
    have := X.2.2.2.2.2.2.1 (kR r1) (kR r2) (kR_lt h1) (kR_lt h2) (Option.some.inj h)
    unfold kR at this; omega))
theorem r_copy (X : MX A Γ p s m args c cc nL own) (hml : c.maxLocals = ls.size) (hH : HW A Γ σ H0 H locs) {k0 k1 c0 c1 o0 o1 n index : Nat} (hk0 : k0 < 440) (hk1 : k1 < 440) (hd0 : desc k0 = (0, c0, o0, n)) (hd1 : desc k1 = (0, c1, o1, n)) {z : Int32} (hz : Int32.ofNat n = z) (hn : n < 2147483648) (hwl : Cond.methodLink own index arraycopyName ∈ wL) (hw1 : Cond.native arraycopyName ∈ wL) (hw2 : Cond.static arraycopyName ∈ wL) (hw3 : Cond.initialized "java/lang/System" ∈ wL)
    (hframes : 1 ≤ R.frames) (hlocals : (rest.map fun v => v.category).sum + (nativeFrameWords "java/lang/System" "arraycopy" 5 + 11) ≤ R.locals) (hdg : decode cc pc = .ok (.invokestatic index, 3))
    (kk : ∀ H1 locs1, HW A Γ (rowI σ c1 o1 (va_cpy (σ.1 c0 o0) (σ.1 c1 o1) 0 0 n)) H0 H1 locs1 → W p l e R s m args below meth c H1 locs1 cells slots Q (F0 m (pc + 3) ls rest)) : W p l e R s m args below meth c H locs cells slots Q (F0 m pc ls (.int z :: .int 0 :: .ref (adr Γ k1) :: .int 0 :: .ref (adr Γ k0) :: rest)) := by
  have hz1 : z.toNatClampNeg = n := by rw [← hz]; exact nI_clamp hn
  have hz2 : ¬ z < 0 := by rw [← hz]; exact nI_pos hn
  refine va_copyi X.1 X.2.1 hml X.2.2.2.1 (X.2.2.2.2.1 _ hwl) (X.2.2.2.2.1 _ hw1) (X.2.2.2.2.1 _ hw2) (X.2.2.2.2.1 _ hw3) X.2.2.2.2.2.1 hH.1 (X.D σ) hH.2 k0 k1 0 0 (c0 := Γ.2.1 0) (c1 := Γ.2.1 0) (n0 := n) (n1 := n) (f := σ.1 c0 o0) (g := σ.1 c1 o1) (by rw [wd_get hk0, hd0]; rfl) (by rw [wd_get hk1, hd1]; rfl) rfl rfl rfl (by decide) (by decide) hz2 (by rw [hz1]; simp) (by rw [hz1]; simp) (fun _ _ => rfl) hframes hlocals hdg (fun H1 locs1 hP _ hS => kk H1 locs1 ⟨?_, hS⟩)
  rw [hz1, wd_rowI hk1 hd1 (Or.inl rfl)] at hP
  exact hP
-- contracts
abbrev CI (l : Launch) (y : MethodName) (ws : List Cond) (rm : Room) (Γ : GG) (σ : Sg) (as : List Value) (σ' : Sg) (r : Int32) : Prop := Met l y ws rm (va_Pc as (CP Γ σ)) (va_Qi (fun (x : Int32) (_ : Unit) => x = r) (fun _ t => CP Γ σ' t) (IA Γ)) 0 0 (IA Γ)
abbrev CL (l : Launch) (y : MethodName) (ws : List Cond) (rm : Room) (Γ : GG) (σ : Sg) (as : List Value) (σ' : Sg) (r : Int64) : Prop := Met l y ws rm (va_Pc as (CP Γ σ)) (va_Ql (fun (x : Int64) (_ : Unit) => x = r) (fun _ t => CP Γ σ' t) (IA Γ)) 0 0 (IA Γ)
abbrev CV (l : Launch) (y : MethodName) (ws : List Cond) (rm : Room) (Γ : GG) (σ : Sg) (as : List Value) (σ' : Sg) (_ : Unit) : Prop := Met l y ws rm (va_Pc as (CP Γ σ)) (va_Qv (fun (_ : Unit) => True) (fun _ t => CP Γ σ' t) (IA Γ)) 0 0 (IA Γ)
abbrev CR (l : Launch) (y : MethodName) (ws : List Cond) (rm : Room) (Γ : GG) (σ : Sg) (as : List Value) (σ' : Sg) (r : Nat) : Prop := Met l y ws rm (va_Pc as (CP Γ σ)) (va_Qr (fun (_ : Unit) => True) (fun _ a t => a = adr Γ (kR r) ∧ CP Γ σ' t) (IA Γ)) 0 0 (IA Γ)
abbrev QI (Γ : GG) (σ' : Sg) (r : Int32) (below : List Frame) (args : Array Value) (s : State) : State → Prop := MQ below (va_Qi (fun (x : Int32) (_ : Unit) => x = r) (fun _ t => CP Γ σ' t) (IA Γ)) args s 0 0 (IA Γ)
abbrev QL (Γ : GG) (σ' : Sg) (r : Int64) (below : List Frame) (args : Array Value) (s : State) : State → Prop := MQ below (va_Ql (fun (x : Int64) (_ : Unit) => x = r) (fun _ t => CP Γ σ' t) (IA Γ)) args s 0 0 (IA Γ)
abbrev QV (Γ : GG) (σ' : Sg) (_ : Unit) (below : List Frame) (args : Array Value) (s : State) : State → Prop := MQ below (va_Qv (fun (_ : Unit) => True) (fun _ t => CP Γ σ' t) (IA Γ)) args s 0 0 (IA Γ)
abbrev QR (Γ : GG) (σ' : Sg) (r : Nat) (below : List Frame) (args : Array Value) (s : State) : State → Prop := MQ below (va_Qr (fun (_ : Unit) => True) (fun _ a t => a = adr Γ (kR r) ∧ CP Γ σ' t) (IA Γ)) args s 0 0 (IA Γ)
/-- .. in a method's own walk -/
def MB (Γ : GG) (p : Program) (s : State) (m : MethodId) (args : Array Value) (meth : Method) (c : Code) (cc : ByteArray) (nL : Nat) (own : String) (ret : Option FieldType) : Prop := MX (IA Γ) Γ p s m args c cc nL own ∧ meth.sig.returnType = ret ∧ meth.locks = false
theorem CP.of (X : MX A Γ p s m args c cc nL own) (hH : HW A Γ σ H0 H locs) {t : State} (ht : t.heap = H) (hW : s.WarmedH t.vm) : CP Γ σ t := ⟨by rw [ht]; exact hH.1, va_K.moved hW.alike X.2.2.2.2.2.1, va_Nw.warmM hW X.2.2.2.2.2.2.2.2⟩
theorem e_int {ret : FieldType} (X : MB Γ p s m args meth c cc nL own (some ret)) (hH : HW (IA Γ) Γ σ s.heap H locs) {v : Int32} (hn : narrow ret (.int v) = .int v) (hdg : decode cc pc = .ok (.ireturn, 1)) : W p l e R s m args below meth c H locs 0 0 (QI Γ σ v below args s) (F0 m pc ls [.int v]) :=
  W.zret X.1.1 X.1.2.1 X.2.1 hn (fun t ht hW => ⟨⟨v, (), rfl, rfl, CP.of X.1 hH ht hW⟩, hH.2.F ht⟩) hH.2.2.2 hdg (hlocks := X.2.2)
theorem e_long (X : MB Γ p s m args meth c cc nL own (some .long)) (hH : HW (IA Γ) Γ σ s.heap H locs) {v : Int64} (hdg : decode cc pc = .ok (.lreturn, 1)) : W p l e R s m args below meth c H locs 0 0 (QL Γ σ v below args s) (F0 m pc ls [.long v]) :=
  W.lret X.1.1 X.1.2.1 X.2.1 (fun t ht hW => ⟨⟨v, (), rfl, rfl, CP.of X.1 hH ht hW⟩, hH.2.F ht⟩) hH.2.2.2 hdg (hlocks := X.2.2)
theorem e_void (X : MB Γ p s m args meth c cc nL own none) (hH : HW (IA Γ) Γ σ s.heap H locs) {v : Unit} (hdg : decode cc pc = .ok (.return_, 1)) : W p l e R s m args below meth c H locs 0 0 (QV Γ σ v below args s) (F0 m pc ls []) :=
  W.vret X.1.1 X.1.2.1 X.2.1 (fun t ht hW => ⟨⟨(), rfl, trivial, CP.of X.1 hH ht hW⟩, hH.2.F ht⟩) hH.2.2.2 hdg (hlocks := X.2.2)
theorem e_ref {C : String} (X : MB Γ p s m args meth c cc nL own (some (.object C))) (hH : HW (IA Γ) Γ σ s.heap H locs) {r : Nat} (hdg : decode cc pc = .ok (.areturn, 1)) : W p l e R s m args below meth c H locs 0 0 (QR Γ σ r below args s) (F0 m pc ls [.ref (adr Γ (kR r))]) :=
  W.aret X.1.1 X.1.2.1 X.2.1 (Or.inl ⟨C, rfl⟩) (Or.inr ⟨_, rfl⟩) (fun t ht hW => ⟨⟨(), _, rfl, trivial, rfl, CP.of X.1 hH ht hW⟩, hH.2.F ht⟩) hH.2.2.2 hdg (hlocks := X.2.2)
-- calls
variable {y : MethodName} {bytes : ByteArray} {maxL n index : Nat} {ret : Option FieldType} {rm : Room} {As st0 : List Value} {σ' : Sg} {lv : List (Nat × Value)}
theorem cp_blind {as : List Value} : FrameBlind (va_Pc as (CP Γ σ)) := fun a U g mk q => ⟨q.1, q.2.1, va_K.moved (u := U) (U := U.calling g mk a) (Vm.Alike.refl U.vm) q.2.2.1, va_Nw.same (u := U) (U := U.calling g mk a) rfl rfl q.2.2.2⟩
theorem cp_pre (X : MX A Γ p s m args c cc nL own) (hH : HW A Γ σ H0 H locs) {as : List Value} : ∀ U : State, U.heap = H → s.WarmedH U.vm → va_Pc as (CP Γ σ) as.toArray U := fun U hU hW => ⟨rfl, CP.of X hH hU hW⟩
theorem ia_in (X : MX A Γ p s m args c cc nL own) : ∀ q, IA Γ q → A q := fun q ⟨k, hk, e⟩ => by rw [e]; exact X.2.2.2.2.2.2.2.1 k hk
/-- the words of a call: the callee's own code, then all the words -/
abbrev wy (y : MethodName) (bytes : ByteArray) (maxL : Nat) (ret : Option FieldType) : List Cond := .code y bytes maxL ret :: wL
theorem wy_good (hc : Cond.code y bytes maxL ret ∈ wL) : GoodIn wL (wy y bytes maxL ret) := fun w hw => by
  have hm : w ∈ wL := by
    rcases List.mem_cons.mp hw with rfl | h
    · exact hc
    · exact h
  exact ⟨hm, good_of_word (List.all_eq_true.mp wL_good w hm)⟩
theorem cw_V (X : MX A Γ p s m args c cc nL own) (n : Nat) (hc : Cond.code y bytes maxL ret ∈ wL) (h1 : Cond.methodLink own index y ∈ wL) (h2 : Cond.instanceMethod y ∈ wL) (h3 : Cond.selects y.cls y y ∈ wL) (h4 : Cond.initialized y.cls ∈ wL) (hrc : rm.cells = 0) (hrs : rm.slots = 0)
    (hd : y.cls ≠ "java/lang/invoke/MethodHandle" ∧ y.cls ≠ "java/lang/invoke/VarHandle" ∧ (parseMethodDescriptor y.desc).map (fun d => d.parameters.length) = some n) (hR : rm.frames + 1 ≤ R.frames ∧ 8 + (maxL + 11) + rm.locals ≤ R.locals) : CallW R s args own y.cls index y bytes maxL ret (wy y bytes maxL ret) rm 0 0 n :=
  ⟨callB_of n X.hts (wy_good hc) rfl hrc hrs (X.hts _ h4) (X.hts _ h1) hd hR, X.hts _ h2, X.hts _ h3⟩
theorem cw_S (X : MX A Γ p s m args c cc nL own) (n : Nat) (hc : Cond.code y bytes maxL ret ∈ wL) (h1 : Cond.methodLink own index y ∈ wL) (h2 : Cond.static y ∈ wL) (h4 : Cond.initialized y.cls ∈ wL) (hrc : rm.cells = 0) (hrs : rm.slots = 0)
    (hd : y.cls ≠ "java/lang/invoke/MethodHandle" ∧ y.cls ≠ "java/lang/invoke/VarHandle" ∧ (parseMethodDescriptor y.desc).map (fun d => d.parameters.length) = some n) (hR : rm.frames + 1 ≤ R.frames ∧ 8 + (maxL + 11) + rm.locals ≤ R.locals) : CallB R s args own index y bytes maxL ret (wy y bytes maxL ret) rm 0 0 n ∧ (Cond.static y).before args s = true :=
  ⟨callB_of n X.hts (wy_good hc) rfl hrc hrs (X.hts _ h4) (X.hts _ h1) hd hR, X.hts _ h2⟩
theorem r_recv (X : MX A Γ p s m args c cc nL own) (hH : HW A Γ σ H0 H locs) {k ci o z N : Nat} {C : String} {T : u_T} (hk : k < 440) (hd : desc k = (4, ci, o, z)) (hc : vwCl[ci]? = some (C, T, N)) : ∃ cell : Cell, H[adr Γ k]? = some cell ∧ cell.vm.isStatics = false ∧ s.vm.findClass C = some cell.cls :=
  va_recv X.2.2.2.2.2.1 hH.1 hc (q0 := k) (fs := objF Γ σ ci o) (by rw [wd_get hk, hd]; rfl)
theorem fix_of (X : MX A Γ p s m args c cc nL own) : CallFix p m c cc nL s args wL own := ⟨X.1, X.2.1, X.2.2.1, X.2.2.2.1, X.2.2.2.2.1⟩
theorem r_callVI (X : MX A Γ p s m args c cc nL own) (hl : lv_has ls nL lv) (hH : HW A Γ σ H0 H locs) {b : Nat} {r : Int32} (hM : CI l y (wy y bytes maxL ret) rm Γ σ (.ref b :: As) σ' r) (cw : CallW R s args own y.cls index y bytes maxL ret (wy y bytes maxL ret) rm 0 0 n) (hrc : ∃ cell : Cell, H[b]? = some cell ∧ cell.vm.isStatics = false ∧ s.vm.findClass y.cls = some cell.cls) (hn : As.length = n) (hst : st0 = As.reverse ++ .ref b :: rest) (hW : (rest.map fun v => v.category).sum ≤ 8) (hdg : decode cc pc = .ok (.invokevirtual index, 3)) (hf : cells ≤ R.cells ∧ slots ≤ R.slots)
    (kk : ∀ H1 locs1, HW A Γ σ' H0 H1 locs1 → W p l e R s m args below meth c H1 locs1 cells slots Q (F0 m (pc + 3) ls (.int r :: rest))) : W p l e R s m args below meth c H locs cells slots Q (F0 m pc ls st0) :=
  va_calli (va_runV (As := As) (rest := rest) (fix_of X) hM cw ⟨cp_blind, hrc, cp_pre X hH⟩ rfl hn hl.1 hst (lv_room hW) hdg hf) hH.2 (fun q _ h => ia_in X q h) (ia_in X) (fun r' u t H1 locs1 ht _ hw hB _ _ hS => by
    subst hw
    exact kk H1 locs1 ⟨by rw [← ht]; exact hB.1, hS⟩)
theorem r_callVL (X : MX A Γ p s m args c cc nL own) (hl : lv_has ls nL lv) (hH : HW A Γ σ H0 H locs) {b : Nat} {r : Int64} (hM : CL l y (wy y bytes maxL ret) rm Γ σ (.ref b :: As) σ' r) (cw : CallW R s args own y.cls index y bytes maxL ret (wy y bytes maxL ret) rm 0 0 n) (hrc : ∃ cell : Cell, H[b]? = some cell ∧ cell.vm.isStatics = false ∧ s.vm.findClass y.cls = some cell.cls) (hn : As.length = n) (hst : st0 = As.reverse ++ .ref b :: rest) (hW : (rest.map fun v => v.category).sum ≤ 8) (hdg : decode cc pc = .ok (.invokevirtual index, 3)) (hf : cells ≤ R.cells ∧ slots ≤ R.slots)
    (kk : ∀ H1 locs1, HW A Γ σ' H0 H1 locs1 → W p l e R s m args below meth c H1 locs1 cells slots Q (F0 m (pc + 3) ls (.long r :: rest))) : W p l e R s m args below meth c H locs cells slots Q (F0 m pc ls st0) :=
  va_calll (va_runV (As := As) (rest := rest) (fix_of X) hM cw ⟨cp_blind, hrc, cp_pre X hH⟩ rfl hn hl.1 hst (lv_room hW) hdg hf) hH.2 (fun q _ h => ia_in X q h) (ia_in X) (fun r' u t H1 locs1 ht _ hw hB _ _ hS => by
    subst hw
    exact kk H1 locs1 ⟨by rw [← ht]; exact hB.1, hS⟩)
theorem r_callVV (X : MX A Γ p s m args c cc nL own) (hl : lv_has ls nL lv) (hH : HW A Γ σ H0 H locs) {b : Nat} {r : Unit} (hM : CV l y (wy y bytes maxL ret) rm Γ σ (.ref b :: As) σ' r) (cw : CallW R s args own y.cls index y bytes maxL ret (wy y bytes maxL ret) rm 0 0 n) (hrc : ∃ cell : Cell, H[b]? = some cell ∧ cell.vm.isStatics = false ∧ s.vm.findClass y.cls = some cell.cls) (hn : As.length = n) (hst : st0 = As.reverse ++ .ref b :: rest) (hW : (rest.map fun v => v.category).sum ≤ 8) (hdg : decode cc pc = .ok (.invokevirtual index, 3)) (hf : cells ≤ R.cells ∧ slots ≤ R.slots)
    (kk : ∀ H1 locs1, HW A Γ σ' H0 H1 locs1 → W p l e R s m args below meth c H1 locs1 cells slots Q (F0 m (pc + 3) ls rest)) : W p l e R s m args below meth c H locs cells slots Q (F0 m pc ls st0) :=
  va_callv (va_runV (As := As) (rest := rest) (fix_of X) hM cw ⟨cp_blind, hrc, cp_pre X hH⟩ rfl hn hl.1 hst (lv_room hW) hdg hf) hH.2 (fun q _ h => ia_in X q h) (ia_in X) (fun u t H1 locs1 ht _ hw hB _ _ hS => kk H1 locs1 ⟨by rw [← ht]; exact hB.1, hS⟩)
theorem r_callVR (X : MX A Γ p s m args c cc nL own) (hl : lv_has ls nL lv) (hH : HW A Γ σ H0 H locs) {b r : Nat} (hM : CR l y (wy y bytes maxL ret) rm Γ σ (.ref b :: As) σ' r) (cw : CallW R s args own y.cls index y bytes maxL ret (wy y bytes maxL ret) rm 0 0 n) (hrc : ∃ cell : Cell, H[b]? = some cell ∧ cell.vm.isStatics = false ∧ s.vm.findClass y.cls = some cell.cls) (hn : As.length = n) (hst : st0 = As.reverse ++ .ref b :: rest) (hW : (rest.map fun v => v.category).sum ≤ 8) (hdg : decode cc pc = .ok (.invokevirtual index, 3)) (hf : cells ≤ R.cells ∧ slots ≤ R.slots)
    (kk : ∀ H1 locs1, HW A Γ σ' H0 H1 locs1 → W p l e R s m args below meth c H1 locs1 cells slots Q (F0 m (pc + 3) ls (.ref (adr Γ (kR r)) :: rest))) : W p l e R s m args below meth c H locs cells slots Q (F0 m pc ls st0) :=
  va_callr (va_runV (As := As) (rest := rest) (fix_of X) hM cw ⟨cp_blind, hrc, cp_pre X hH⟩ rfl hn hl.1 hst (lv_room hW) hdg hf) hH.2 (fun q _ h => ia_in X q h) (ia_in X) (fun u ra t H1 locs1 ht _ hw hB _ _ hS => by
    rw [hB.1]
    exact kk H1 locs1 ⟨by rw [← ht]; exact hB.2.1, hS⟩)
theorem r_callSI (X : MX A Γ p s m args c cc nL own) (hl : lv_has ls nL lv) (hH : HW A Γ σ H0 H locs) {r : Int32} (hM : CI l y (wy y bytes maxL ret) rm Γ σ As σ' r) (cw : CallB R s args own index y bytes maxL ret (wy y bytes maxL ret) rm 0 0 n ∧ (Cond.static y).before args s = true) (hn : As.length = n) (hst : st0 = As.reverse ++ rest) (hW : (rest.map fun v => v.category).sum ≤ 8) (hdg : decode cc pc = .ok (.invokestatic index, 3)) (hf : cells ≤ R.cells ∧ slots ≤ R.slots)
    (kk : ∀ H1 locs1, HW A Γ σ' H0 H1 locs1 → W p l e R s m args below meth c H1 locs1 cells slots Q (F0 m (pc + 3) ls (.int r :: rest))) : W p l e R s m args below meth c H locs cells slots Q (F0 m pc ls st0) :=
  va_calli (va_runS (As := As) (rest := rest) (fix_of X) hM cw ⟨cp_blind, cp_pre X hH⟩ rfl hn hl.1 hst (lv_room hW) hdg hf) hH.2 (fun q _ h => ia_in X q h) (ia_in X) (fun r' u t H1 locs1 ht _ hw hB _ _ hS => by
    subst hw
    exact kk H1 locs1 ⟨by rw [← ht]; exact hB.1, hS⟩)
theorem r_callSL (X : MX A Γ p s m args c cc nL own) (hl : lv_has ls nL lv) (hH : HW A Γ σ H0 H locs) {r : Int64} (hM : CL l y (wy y bytes maxL ret) rm Γ σ As σ' r) (cw : CallB R s args own index y bytes maxL ret (wy y bytes maxL ret) rm 0 0 n ∧ (Cond.static y).before args s = true) (hn : As.length = n) (hst : st0 = As.reverse ++ rest) (hW : (rest.map fun v => v.category).sum ≤ 8) (hdg : decode cc pc = .ok (.invokestatic index, 3)) (hf : cells ≤ R.cells ∧ slots ≤ R.slots)
    (kk : ∀ H1 locs1, HW A Γ σ' H0 H1 locs1 → W p l e R s m args below meth c H1 locs1 cells slots Q (F0 m (pc + 3) ls (.long r :: rest))) : W p l e R s m args below meth c H locs cells slots Q (F0 m pc ls st0) :=
  va_calll (va_runS (As := As) (rest := rest) (fix_of X) hM cw ⟨cp_blind, cp_pre X hH⟩ rfl hn hl.1 hst (lv_room hW) hdg hf) hH.2 (fun q _ h => ia_in X q h) (ia_in X) (fun r' u t H1 locs1 ht _ hw hB _ _ hS => by
    subst hw
    exact kk H1 locs1 ⟨by rw [← ht]; exact hB.1, hS⟩)
theorem r_callSV (X : MX A Γ p s m args c cc nL own) (hl : lv_has ls nL lv) (hH : HW A Γ σ H0 H locs) {r : Unit} (hM : CV l y (wy y bytes maxL ret) rm Γ σ As σ' r) (cw : CallB R s args own index y bytes maxL ret (wy y bytes maxL ret) rm 0 0 n ∧ (Cond.static y).before args s = true) (hn : As.length = n) (hst : st0 = As.reverse ++ rest) (hW : (rest.map fun v => v.category).sum ≤ 8) (hdg : decode cc pc = .ok (.invokestatic index, 3)) (hf : cells ≤ R.cells ∧ slots ≤ R.slots)
    (kk : ∀ H1 locs1, HW A Γ σ' H0 H1 locs1 → W p l e R s m args below meth c H1 locs1 cells slots Q (F0 m (pc + 3) ls rest)) : W p l e R s m args below meth c H locs cells slots Q (F0 m pc ls st0) :=
  va_callv (va_runS (As := As) (rest := rest) (fix_of X) hM cw ⟨cp_blind, cp_pre X hH⟩ rfl hn hl.1 hst (lv_room hW) hdg hf) hH.2 (fun q _ h => ia_in X q h) (ia_in X) (fun u t H1 locs1 ht _ hw hB _ _ hS => kk H1 locs1 ⟨by rw [← ht]; exact hB.1, hS⟩)
theorem r_callSVN (X : MX A Γ p s m args c cc nL own) (hl : lv_has ls nL lv) (hH : HW A Γ σ H0 H locs) {host : String} {r : Unit} (hM : CV l y (wy y bytes maxL ret) rm Γ σ As σ' r) (hc : Cond.code y bytes maxL ret ∈ wL) (h1 : va_Nw (.methodLinkNest own index y host) s) (h2 : Cond.static y ∈ wL) (h4 : Cond.initialized y.cls ∈ wL) (hrc : rm.cells = 0) (hrs : rm.slots = 0)
    (hd : y.cls ≠ "java/lang/invoke/MethodHandle" ∧ y.cls ≠ "java/lang/invoke/VarHandle" ∧ (parseMethodDescriptor y.desc).map (fun d => d.parameters.length) = some n) (hR : rm.frames + 1 ≤ R.frames ∧ 8 + (maxL + 11) + rm.locals ≤ R.locals) (hn : As.length = n) (hst : st0 = As.reverse ++ rest) (hW : (rest.map fun v => v.category).sum ≤ 8) (hdg : decode cc pc = .ok (.invokestatic index, 3)) (hf : cells ≤ R.cells ∧ slots ≤ R.slots)
    (kk : ∀ H1 locs1, HW A Γ σ' H0 H1 locs1 → W p l e R s m args below meth c H1 locs1 cells slots Q (F0 m (pc + 3) ls rest)) : W p l e R s m args below meth c H locs cells slots Q (F0 m pc ls st0) :=
  va_callv (va_runSN (As := As) (rest := rest) (fix_of X) hM ⟨va_cnB n X.hts (wy_good hc) rfl hrc hrs h1 (X.hts _ h4) hd hR, X.hts _ h2, trivial⟩ ⟨cp_blind, cp_pre X hH⟩ rfl hn hl.1 hst (lv_room hW) hdg hf) hH.2 (fun q _ h => ia_in X q h) (ia_in X) (fun u t H1 locs1 ht _ hw hB _ _ hS => kk H1 locs1 ⟨by rw [← ht]; exact hB.1, hS⟩)
end ROWS
/-- a contract out of the walk of its body -/
theorem met_of {l : Launch} {y : MethodName} {cc : ByteArray} {maxL : Nat} {ret : Option FieldType} {rm : Room} {Γ : GG} {σ : Sg} {as : List Value} {Qc : Array Value → State → Outcome → State → Prop} (hy : plainName y.cls = true) (hJ : IJ Γ) (hlen : (lg_sl as).length ≤ maxL)
    (body : ∀ (p : Program) (e : Env) (s : State) (m : MethodId) (below : List Frame) (meth : Method) (c : Code) (ls : Array Slot), MB Γ p s m as.toArray meth c cc maxL y.cls ret → HW (IA Γ) Γ σ s.heap s.heap [] → lv_has ls maxL (lv_args 0 as) → W p l e rm s m as.toArray below meth c s.heap [] 0 0 (MQ below Qc as.toArray s 0 0 (IA Γ)) (F0 m 0 ls [])) :
    Met l y (wy y cc maxL ret) rm (va_Pc as (CP Γ σ)) Qc 0 0 (IA Γ) := by
  refine Met.ofW (cc := cc) (maxL := maxL) (ret := ret) hy rfl ?_
  intro p e s m args below meth c s₁ B hml hv
  obtain ⟨rfl, hP, hK, hN⟩ := hv
  have hts := atoms_spec (ws := wy y cc maxL ret) B.pre
  have hl := lv_entry as hlen
  rw [lg_entry_eq]
  exact body p e s m below meth c _ ⟨⟨B.exec, B.bytes, hml, findClass_of_methodNamed B.named, fun w hw => hts w (List.mem_cons_of_mem _ hw), hK, hJ, fun k hk => ⟨k, hk, rfl⟩, hN⟩, B.returns, B.notSynchronized⟩ ⟨hP, va_S.rf⟩ hl
