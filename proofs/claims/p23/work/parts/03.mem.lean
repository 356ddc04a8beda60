/-! MEMORY. A mill's cells have numbers 0 to 439 (Γ.2.2 gives the address); 'desc' says what a cell is: kind (0 row of ints, 1 of longs, 2 of booleans, 3 of results, 4 object), component (of an object: its class in vwCl), owner, length. A state gives by component, owner and place: ints (booleans too), longs, results. -/
abbrev Sg : Type := (Nat → Nat → Nat → Int32) × (Nat → Nat → Nat → Int64) × (Nat → Nat → Nat → Option Nat)
abbrev GG : Type := va_G × (Nat → ClassId) × (Nat → Nat)
def kT (t : Nat) : Nat := 42 + 4 * t
def kW (w : Nat) : Nat := 18 + 12 * w
def kR (r : Nat) : Nat := 170 + 9 * r
abbrev adr (Γ : GG) (k : Nat) : Nat := Γ.2.2 k
def desc (k : Nat) : Nat × Nat × Nat × Nat :=
  if k < 18 then (match k with
    | 0 => (4, 7, 0, 0) | 1 => (0, 0, 0, 800) | 2 => (0, 1, 0, 8) | 3 => (0, 2, 0, 8)
    | 4 => (4, 1, 0, 0) | 5 => (0, 6, 0, 128) | 6 => (0, 7, 0, 128) | 7 => (0, 8, 0, 64) | 8 => (0, 9, 0, 128) | 9 => (0, 10, 0, 128) | 10 => (0, 11, 0, 8) | 11 => (0, 12, 0, 8)
    | 12 => (4, 3, 0, 0) | 13 => (0, 13, 0, 8) | 14 => (0, 14, 0, 8) | 15 => (0, 15, 0, 8) | 16 => (0, 16, 0, 8) | _ => (0, 17, 0, 8))
  else if k < 42 then (match (k - 18) % 12 with
    | 0 => (4, 6, (k - 18) / 12, 0) | 1 => (4, 4, (k - 18) / 12, 0) | 2 => (3, 1, (k - 18) / 12, if (k - 18) / 12 = 0 then 10 else 0)
    | 3 => (3, 0, (k - 18) / 12, 8) | 4 => (3, 3, (k - 18) / 12, if (k - 18) / 12 = 0 then 19 else 9)
    | 5 => (4, 0, (k - 18) / 12, 0) | 6 => (3, 2, (k - 18) / 12, 8) | 7 => (0, 21, (k - 18) / 12, 128) | 8 => (0, 22, (k - 18) / 12, 256)
    | 9 => (2, 23, (k - 18) / 12, 128) | 10 => (0, 24, (k - 18) / 12, 128) | _ => (2, 25, (k - 18) / 12, 128))
  else if k < 170 then (match (k - 42) % 4 with
    | 0 => (4, 5, (k - 42) / 4, 0) | 1 => (0, 26, (k - 42) / 4, 128) | 2 => (0, 27, (k - 42) / 4, 40) | _ => (0, 28, (k - 42) / 4, 8))
  else (match (k - 170) % 9 with
    | 0 => (4, 2, (k - 170) / 9, 0) | 1 => (1, 0, (k - 170) / 9, 128) | 2 => (1, 1, (k - 170) / 9, 128) | 3 => (0, 31, (k - 170) / 9, 128)
    | 4 => (2, 32, (k - 170) / 9, 128) | 5 => (2, 33, (k - 170) / 9, 128) | 6 => (0, 34, (k - 170) / 9, 128) | 7 => (0, 35, (k - 170) / 9, 128) | _ => (0, 36, (k - 170) / 9, 128))
/-- the cell back from kind, component and owner -/
def undesc (q : Nat × Nat × Nat) : Nat := match q with
  | (1, c, o) => kR o + 1 + c
  | (3, c, o) => (match c with | 0 => kW o + 3 | 1 => kW o + 2 | 2 => kW o + 6 | _ => kW o + 4)
  | (4, c, o) => (match c with | 0 => kW o + 5 | 1 => 4 | 2 => kR o | 3 => 12 | 4 => kW o + 1 | 5 => kT o | 6 => kW o | _ => 0)
  | (_, c, o) => if c < 18 then (if c < 3 then c + 1 else if c < 13 then c - 1 else c) else if c < 26 then kW o + (c - 14) else if c < 29 then kT o + (c - 25) else kR o + (c - 28)
/-- kinds 0 and 2 lie in one store -/
def kd (n : Nat) : Nat := if n = 2 then 0 else n
theorem undesc_desc : ∀ k, k < 440 → undesc (kd (desc k).1, (desc k).2.1, (desc k).2.2.1) = k := by decide +kernel
/-- components of rows are no components of fields -/
def fldC (c : Nat) : Bool := c == 3 || c == 4 || c == 5 || c == 18 || c == 19 || c == 20 || c == 29 || c == 30
theorem desc_fld : ∀ k, k < 440 → kd (desc k).1 = 0 → fldC (desc k).2.1 = false := by decide +kernel
theorem desc_cls : ∀ k, k < 440 → (desc k).1 < 5 := by decide +kernel
def rrow (Γ : GG) (σ : Sg) (c o : Nat) : Nat → Option Nat := fun i => (σ.2.2 c o i).map (fun r => adr Γ (kR r))
def objF (Γ : GG) (σ : Sg) (ci o : Nat) : List Value := match ci with
  | 0 => [.ref (adr Γ 4), .ref (adr Γ (kW o + 6)), .ref (adr Γ (kW o + 7)), .int (σ.1 20 o 0), .ref (adr Γ (kW o + 8)), .ref (adr Γ (kW o + 9)), .ref (adr Γ (kW o + 10)), .ref (adr Γ (kW o + 11))]
  | 1 => [.ref (adr Γ (kT 0)), .ref (adr Γ 5), .ref (adr Γ 6), .ref (adr Γ 7), .ref (adr Γ 8), .ref (adr Γ 9), .ref (adr Γ 10), .ref (adr Γ 11)]
  | 2 => [.int (σ.1 30 o 0), .ref (adr Γ (kT (o + 2))), .ref (adr Γ (kR o + 1)), .ref (adr Γ (kR o + 2)), .ref (adr Γ (kR o + 3)), .ref (adr Γ (kR o + 4)), .ref (adr Γ (kR o + 5)), .ref (adr Γ (kR o + 6)), .ref (adr Γ (kR o + 7)), .ref (adr Γ (kR o + 8))]
  | 3 => [.ref (adr Γ (kT 0)), .ref (adr Γ 13), .ref (adr Γ 14), .ref (adr Γ 15), .ref (adr Γ 16), .ref (adr Γ 17), .int (σ.1 18 0 0)]
  | 4 => [.ref (adr Γ (kW o + 2)), .int (σ.1 19 o 0)]
  | 5 => [.ref (adr Γ (kT o + 1)), .ref (adr Γ (kT o + 2)), .ref (adr Γ (kT o + 3)), .int (σ.1 29 o 0)]
  | 6 => [.ref (adr Γ (kT o)), .ref (adr Γ 4), .ref (adr Γ 12), .ref (adr Γ (kW o + 5)), .ref (adr Γ (kW o + 1)), .ref (adr Γ (kW o + 3)), .ref (adr Γ (kR (20 * o))), .ref (adr Γ (kW o + 4))]
  | _ => [.ref (adr Γ (kT 0)), .ref (adr Γ 4), .ref (adr Γ 12), .ref (adr Γ (kW 0)), .ref (adr Γ (kW 1)), .ref (adr Γ 1), .ref (adr Γ 2), .ref (adr Γ 3), .int (σ.1 3 0 0), .int (σ.1 4 0 0), .int (σ.1 5 0 0)]
def cellQ (Γ : GG) (σ : Sg) (q : Nat × Nat × Nat × Nat) : va_E := match q with
  | (0, c, o, n) => .inl (Γ.2.1 0, n, .inl (σ.1 c o))
  | (1, c, o, n) => .inl (Γ.2.1 1, n, .inr (.inl (σ.2.1 c o)))
  | (2, c, o, n) => .inl (Γ.2.1 2, n, .inl (σ.1 c o))
  | (3, c, o, n) => .inl (Γ.2.1 3, n, .inr (.inr (.inr (.inr (rrow Γ σ c o)))))
  | (_, c, o, _) => .inr (c, objF Γ σ c o)
abbrev wd (Γ : GG) (σ : Sg) : va_W := (List.range 440).map (fun k => (adr Γ k, cellQ Γ σ (desc k)))
abbrev tyl (Γ : GG) : List (ClassId × FieldType) := [(Γ.2.1 0, .int), (Γ.2.1 1, .long), (Γ.2.1 2, .boolean), (Γ.2.1 3, .object RX5)]
/-- a row, a field, one place written -/
def rowI (σ : Sg) (c o : Nat) (f : Nat → Int32) : Sg := (fun c' o' => if c' = c ∧ o' = o then f else σ.1 c' o', σ.2)
def rowJ (σ : Sg) (c o : Nat) (f : Nat → Int64) : Sg := (σ.1, fun c' o' => if c' = c ∧ o' = o then f else σ.2.1 c' o', σ.2.2)
def rowP (σ : Sg) (c o : Nat) (f : Nat → Option Nat) : Sg := (σ.1, σ.2.1, fun c' o' => if c' = c ∧ o' = o then f else σ.2.2 c' o')
def wI (σ : Sg) (c o i : Nat) (v : Int32) : Sg := rowI σ c o (upd (σ.1 c o) i v)
def wJ (σ : Sg) (c o i : Nat) (v : Int64) : Sg := rowJ σ c o (vp_updL (σ.2.1 c o) i v)
def wP (σ : Sg) (c o i : Nat) (r : Nat) : Sg := rowP σ c o (va_up (σ.2.2 c o) i (some r))
theorem wd_get {Γ : GG} {σ : Sg} {k : Nat} (h : k < 440) : (wd Γ σ)[k]? = some (adr Γ k, cellQ Γ σ (desc k)) := by
  rw [List.getElem?_map, List.getElem?_range h]; rfl
theorem wd_len (Γ : GG) (σ : Sg) : (wd Γ σ).length = 440 := by simp [wd]
theorem wd_set {Γ : GG} {σ σ' : Sg} {k : Nat} (hk : k < 440) (h : ∀ j, j < 440 → j ≠ k → cellQ Γ σ' (desc j) = cellQ Γ σ (desc j)) : (wd Γ σ).set k (adr Γ k, cellQ Γ σ' (desc k)) = wd Γ σ' := by
  apply List.ext_getElem?
  intro j
  by_cases hj : j < 440
  · by_cases e : j = k
    · subst e
      rw [List.getElem?_set_self (by rw [wd_len]; exact hj), wd_get hj]
    · rw [List.getElem?_set_ne (Ne.symm e), wd_get hj, wd_get hj, h j hj e]
  · rw [List.getElem?_eq_none (by rw [List.length_set, wd_len]; omega), List.getElem?_eq_none (by rw [wd_len]; omega)]
theorem cellQ_ne {Γ : GG} {σ σ' : Sg} {q : Nat × Nat × Nat × Nat} (h0 : kd q.1 = 0 → σ'.1 q.2.1 q.2.2.1 = σ.1 q.2.1 q.2.2.1) (h1 : q.1 = 1 → σ'.2.1 q.2.1 q.2.2.1 = σ.2.1 q.2.1 q.2.2.1) (h3 : q.1 = 3 → σ'.2.2 q.2.1 q.2.2.1 = σ.2.2 q.2.1 q.2.2.1) (h4 : 4 ≤ q.1 → objF Γ σ' q.2.1 q.2.2.1 = objF Γ σ q.2.1 q.2.2.1) : cellQ Γ σ' q = cellQ Γ σ q := by
  obtain ⟨a, c, o, n⟩ := q
  dsimp only at h0 h1 h3 h4
  match a, h0, h1, h3, h4 with
  | 0, h0, _, _, _ => simp only [cellQ]; rw [h0 rfl]
  | 1, _, h1, _, _ => simp only [cellQ]; rw [h1 rfl]
  | 2, h0, _, _, _ => simp only [cellQ]; rw [h0 rfl]
  | 3, _, _, h3, _ =>
    have e : rrow Γ σ' c o = rrow Γ σ c o := by funext i; unfold rrow; rw [h3 rfl]
    simp only [cellQ]; rw [e]
  | a + 4, _, _, _, h4 => simp only [cellQ]; rw [h4 (by omega)]
theorem objF_ne {Γ : GG} {σ σ' : Sg} (h : ∀ c o, fldC c = true → σ'.1 c o 0 = σ.1 c o 0) (ci o : Nat) : objF Γ σ' ci o = objF Γ σ ci o := by
  unfold objF
  split <;> simp only [h 20 o rfl, h 30 o rfl, h 18 0 rfl, h 19 o rfl, h 29 o rfl, h 3 0 rfl, h 4 0 rfl, h 5 0 rfl]
theorem kd_inj {j k : Nat} (hj : j < 440) (hk : k < 440) (h1 : kd (desc j).1 = kd (desc k).1) (h2 : (desc j).2.1 = (desc k).2.1) (h3 : (desc j).2.2.1 = (desc k).2.2.1) : j = k := by
  rw [← undesc_desc j hj, ← undesc_desc k hk, h1, h2, h3]
theorem wd_rowI {Γ : GG} {σ : Sg} {k x c o n : Nat} {f : Nat → Int32} (hk : k < 440) (hd : desc k = (x, c, o, n)) (hx : x = 0 ∨ x = 2) : (wd Γ σ).set k (adr Γ k, .inl (Γ.2.1 x, n, .inl f)) = wd Γ (rowI σ c o f) := by
  have hkd : kd (desc k).1 = 0 := by rw [hd]; rcases hx with rfl | rfl <;> rfl
  have e : va_E := .inl (Γ.2.1 x, n, .inl f)
  have h9 : cellQ Γ (rowI σ c o f) (desc k) = .inl (Γ.2.1 x, n, .inl f) := by
    rw [hd]
    rcases hx with rfl | rfl <;> simp [cellQ, rowI]
  rw [← h9]
  refine wd_set hk (fun j hj hne => cellQ_ne (fun h0 => ?_) (fun _ => rfl) (fun _ => rfl) (fun _ => objF_ne (fun c' o' hc => ?_) _ _))
  · show (if _ ∧ _ then _ else _) = _
    rw [if_neg]
    rintro ⟨h2, h3⟩
    exact hne (kd_inj hj hk (by rw [h0, hkd]) (by rw [h2, hd]) (by rw [h3, hd]))
  · show (if c' = c ∧ o' = o then f else σ.1 c' o') 0 = _
    rw [if_neg]
    rintro ⟨h2, h3⟩
    have := desc_fld k hk hkd
    rw [hd] at this
    rw [h2] at hc
    rw [hc] at this
    cases this
theorem wd_rowJ {Γ : GG} {σ : Sg} {k c o n : Nat} {f : Nat → Int64} (hk : k < 440) (hd : desc k = (1, c, o, n)) : (wd Γ σ).set k (adr Γ k, .inl (Γ.2.1 1, n, .inr (.inl f))) = wd Γ (rowJ σ c o f) := by
  have h9 : cellQ Γ (rowJ σ c o f) (desc k) = .inl (Γ.2.1 1, n, .inr (.inl f)) := by
    rw [hd]; simp [cellQ, rowJ]
  rw [← h9]
  refine wd_set hk (fun j hj hne => cellQ_ne (fun h0 => rfl) (fun h1 => ?_) (fun _ => rfl) (fun _ => objF_ne (fun c' o' hc => rfl) _ _))
  show (if _ ∧ _ then _ else _) = _
  rw [if_neg]
  rintro ⟨h2, h3⟩
  exact hne (kd_inj hj hk (by rw [h1, hd]) (by rw [h2, hd]) (by rw [h3, hd]))
theorem wd_rowP {Γ : GG} {σ : Sg} {k c o n : Nat} {f : Nat → Option Nat} (hk : k < 440) (hd : desc k = (3, c, o, n)) : (wd Γ σ).set k (adr Γ k, .inl (Γ.2.1 3, n, .inr (.inr (.inr (.inr (fun i => (f i).map (fun r => adr Γ (kR r)))))))) = wd Γ (rowP σ c o f) := by
  have h9 : cellQ Γ (rowP σ c o f) (desc k) = .inl (Γ.2.1 3, n, .inr (.inr (.inr (.inr (fun i => (f i).map (fun r => adr Γ (kR r))))))) := by
    rw [hd]
    have e : rrow Γ (rowP σ c o f) c o = fun i => (f i).map (fun r => adr Γ (kR r)) := by funext i; simp [rrow, rowP]
    simp only [cellQ, e]
  rw [← h9]
  refine wd_set hk (fun j hj hne => cellQ_ne (fun h0 => rfl) (fun h1 => rfl) (fun h3' => ?_) (fun _ => objF_ne (fun c' o' hc => rfl) _ _))
  show (if _ ∧ _ then _ else _) = _
  rw [if_neg]
  rintro ⟨h2, h3⟩
  exact hne (kd_inj hj hk (by rw [h3', hd]) (by rw [h2, hd]) (by rw [h3, hd]))
/-- the int fields: class, place in the object, component -/
def fldOf (c : Nat) : Nat × Nat := match c with
  | 3 => (7, 8) | 4 => (7, 9) | 5 => (7, 10) | 18 => (3, 6) | 19 => (4, 1) | 20 => (0, 3) | 29 => (5, 3) | _ => (2, 0)
theorem objF_set {Γ : GG} {σ : Sg} {c o : Nat} {v : Int32} (hc : fldC c = true) (ho : (fldOf c).1 = 7 ∨ (fldOf c).1 = 3 → o = 0) : (objF Γ σ (fldOf c).1 o).set (fldOf c).2 (.int v) = objF Γ (wI σ c o 0 v) (fldOf c).1 o := by
  have h : c = 3 ∨ c = 4 ∨ c = 5 ∨ c = 18 ∨ c = 19 ∨ c = 20 ∨ c = 29 ∨ c = 30 := by
    simp only [fldC, Bool.or_eq_true, beq_iff_eq] at hc; omega
  rcases h with rfl | rfl | rfl | rfl | rfl | rfl | rfl | rfl
  all_goals first
    | (have h0 : o = 0 := ho (by decide)
       subst h0
       simp [objF, fldOf, wI, rowI, upd])
    | simp [objF, fldOf, wI, rowI, upd]
theorem objF_other {Γ : GG} {σ : Sg} {c o ci o' : Nat} {v : Int32} (hc : fldC c = true) (hci : ci < 8) (hne : ¬ (ci = (fldOf c).1 ∧ o' = o)) (ho : ci = 7 ∨ ci = 3 → o' = 0) : objF Γ (wI σ c o 0 v) ci o' = objF Γ σ ci o' := by
  have h : c = 3 ∨ c = 4 ∨ c = 5 ∨ c = 18 ∨ c = 19 ∨ c = 20 ∨ c = 29 ∨ c = 30 := by
    simp only [fldC, Bool.or_eq_true, beq_iff_eq] at hc; omega
  have h2 : ci = 0 ∨ ci = 1 ∨ ci = 2 ∨ ci = 3 ∨ ci = 4 ∨ ci = 5 ∨ ci = 6 ∨ ci = 7 := by omega
  rcases h2 with rfl | rfl | rfl | rfl | rfl | rfl | rfl | rfl <;> rcases h with rfl | rfl | rfl | rfl | rfl | rfl | rfl | rfl <;> simp [fldOf] at hne ho <;> simp [objF, wI, rowI, upd] <;> (try subst ho) <;> (try simp_all) <;> (try omega)
theorem desc_obj : ∀ k, k < 440 → (desc k).1 = 4 → (desc k).2.1 < 8 ∧ ((desc k).2.1 = 7 ∨ (desc k).2.1 = 3 → (desc k).2.2.1 = 0) := by decide +kernel
theorem wd_fld {Γ : GG} {σ : Sg} {k c o n : Nat} {v : Int32} (hk : k < 440) (hc : fldC c = true) (hd : desc k = (4, (fldOf c).1, o, n)) : (wd Γ σ).set k (adr Γ k, .inr ((fldOf c).1, (objF Γ σ (fldOf c).1 o).set (fldOf c).2 (.int v))) = wd Γ (wI σ c o 0 v) := by
  have hob := desc_obj k hk (by rw [hd])
  rw [hd] at hob
  have h9 : cellQ Γ (wI σ c o 0 v) (desc k) = .inr ((fldOf c).1, (objF Γ σ (fldOf c).1 o).set (fldOf c).2 (.int v)) := by
    rw [hd, objF_set hc hob.2]; rfl
  rw [← h9]
  refine wd_set hk (fun j hj hne => cellQ_ne (fun h0 => ?_) (fun h1 => rfl) (fun h3 => rfl) (fun h4 => ?_))
  · show (if _ ∧ _ then _ else _) = _
    rw [if_neg]
    rintro ⟨h2, h3⟩
    have := desc_fld j hj h0
    rw [h2, hc] at this
    cases this
  · have h5 : (desc j).1 = 4 := by have := desc_cls j hj; omega
    have hoj := desc_obj j hj h5
    exact objF_other hc hoj.1 (fun ⟨e1, e2⟩ => hne (kd_inj hj hk (by rw [h5, hd]) (by rw [e1, hd]) (by rw [e2, hd]))) hoj.2
-- where the cells lie
theorem kT_lt {t : Nat} (h : t < 32) : kT t < 440 := by unfold kT; omega
theorem kW_lt {w : Nat} (h : w < 2) : kW w < 440 := by unfold kW; omega
theorem kR_lt {r : Nat} (h : r < 30) : kR r < 440 := by unfold kR; omega
theorem dT0 : ∀ t, t < 32 → desc (kT t) = (4, 5, t, 0) := by decide +kernel
theorem dT1 : ∀ t, t < 32 → desc (kT t + 1) = (0, 26, t, 128) := by decide +kernel
theorem dT2 : ∀ t, t < 32 → desc (kT t + 2) = (0, 27, t, 40) := by decide +kernel
theorem dT3 : ∀ t, t < 32 → desc (kT t + 3) = (0, 28, t, 8) := by decide +kernel
theorem lT1 : ∀ t, t < 32 → kT t + 1 < 440 := by decide +kernel
theorem lT2 : ∀ t, t < 32 → kT t + 2 < 440 := by decide +kernel
theorem lT3 : ∀ t, t < 32 → kT t + 3 < 440 := by decide +kernel
def lenP (c w : Nat) : Nat := match c with | 0 => 8 | 1 => (if w = 0 then 10 else 0) | 2 => 8 | _ => (if w = 0 then 19 else 9)
theorem dW0 : ∀ w, w < 2 → desc (kW w) = (4, 6, w, 0) := by decide +kernel
theorem dW1 : ∀ w, w < 2 → desc (kW w + 1) = (4, 4, w, 0) := by decide +kernel
theorem dW2 : ∀ w, w < 2 → desc (kW w + 2) = (3, 1, w, lenP 1 w) := by decide +kernel
theorem dW3 : ∀ w, w < 2 → desc (kW w + 3) = (3, 0, w, lenP 0 w) := by decide +kernel
theorem dW4 : ∀ w, w < 2 → desc (kW w + 4) = (3, 3, w, lenP 3 w) := by decide +kernel
theorem dW5 : ∀ w, w < 2 → desc (kW w + 5) = (4, 0, w, 0) := by decide +kernel
theorem dW6 : ∀ w, w < 2 → desc (kW w + 6) = (3, 2, w, lenP 2 w) := by decide +kernel
theorem dW7 : ∀ w, w < 2 → desc (kW w + 7) = (0, 21, w, 128) := by decide +kernel
theorem dW8 : ∀ w, w < 2 → desc (kW w + 8) = (0, 22, w, 256) := by decide +kernel
theorem dW9 : ∀ w, w < 2 → desc (kW w + 9) = (2, 23, w, 128) := by decide +kernel
theorem dW10 : ∀ w, w < 2 → desc (kW w + 10) = (0, 24, w, 128) := by decide +kernel
theorem dW11 : ∀ w, w < 2 → desc (kW w + 11) = (2, 25, w, 128) := by decide +kernel
theorem lW : ∀ w, w < 2 → ∀ j, j < 12 → kW w + j < 440 := by decide +kernel
theorem dR0 : ∀ r, r < 30 → desc (kR r) = (4, 2, r, 0) := by decide +kernel
theorem dR1 : ∀ r, r < 30 → desc (kR r + 1) = (1, 0, r, 128) := by decide +kernel
theorem dR2 : ∀ r, r < 30 → desc (kR r + 2) = (1, 1, r, 128) := by decide +kernel
theorem dR3 : ∀ r, r < 30 → desc (kR r + 3) = (0, 31, r, 128) := by decide +kernel
theorem dR4 : ∀ r, r < 30 → desc (kR r + 4) = (2, 32, r, 128) := by decide +kernel
theorem dR5 : ∀ r, r < 30 → desc (kR r + 5) = (2, 33, r, 128) := by decide +kernel
theorem dR6 : ∀ r, r < 30 → desc (kR r + 6) = (0, 34, r, 128) := by decide +kernel
theorem dR7 : ∀ r, r < 30 → desc (kR r + 7) = (0, 35, r, 128) := by decide +kernel
theorem dR8 : ∀ r, r < 30 → desc (kR r + 8) = (0, 36, r, 128) := by decide +kernel
theorem lR : ∀ r, r < 30 → ∀ j, j < 9 → kR r + j < 440 := by decide +kernel
