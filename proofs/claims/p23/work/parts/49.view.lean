/-! VIEWS: what a works shows of its last results, as a value -/
abbrev AV : Type := (Nat → Int32) × (Nat → Prop) × (Nat → Nat → Int64) × (Nat → Int64)
abbrev AV.mo (V : AV) : Nat → Int32 := V.1
abbrev AV.ts (V : AV) : Nat → Prop := V.2.1
abbrev AV.no (V : AV) : Nat → Nat → Int64 := V.2.2.1
abbrev AV.an (V : AV) : Nat → Int64 := V.2.2.2
abbrev CX : Type := (Nat → Int32) × (Int32 → Nat → Bool) × (Int32 → (Nat → Int64) → Nat → Int64)
abbrev CX.o (C : CX) : Nat → Int32 := C.1
abbrev CX.wt (C : CX) : Int32 → Nat → Bool := C.2.1
abbrev CX.G (C : CX) : Int32 → (Nat → Int64) → Nat → Int64 := C.2.2
def VW (σ : Sg) (w : Nat) : AV := (modW σ w, (fun m => tsR σ w (LQ σ w m)), (fun m s => σ.2.1 0 (LQ σ w m) s), anW σ w)
noncomputable def CXW (σ : Sg) (w : Nat) : CX := (σ.1 6 0, (fun ring s => wtR σ ring 8 s), fun ring an i => ansOf (mkD (nEV ring (σ.1 26 w) (σ.1 7 0) an)) i)
def frA (C : CX) (V : AV) (ring : Int32) : Prop := (∀ m, m < 8 → bt ring m = true → ¬ V.mo m = 0) ∧ (∀ m, m < 8 → bt ring m = true → V.mo m = ring) ∧ V.ts (sm8 ring) ∧ ∀ s, s < 128 → V.no (sm8 ring) s = -3 ∨ V.no (sm8 ring) s = aToA C.o V.an (V.mo (sm8 ring)) s
theorem frR_A (σ : Sg) (w : Nat) (ring : Int32) : frR σ w ring ↔ frA (CXW σ w) (VW σ w) ring := Iff.rfl
def VE (V V' : AV) : Prop := (∀ m, m < 8 → V.mo m = V'.mo m ∧ (V.ts m ↔ V'.ts m) ∧ ∀ s, s < 128 → V.no m s = V'.no m s) ∧ ∀ j, j < 128 → V.an j = V'.an j
theorem VE.rf (V : AV) : VE V V := ⟨fun _ _ => ⟨rfl, Iff.rfl, fun _ _ => rfl⟩, fun _ _ => rfl⟩
theorem VE.sy {V V' : AV} (h : VE V V') : VE V' V := ⟨fun m hm => ⟨(h.1 m hm).1.symm, (h.1 m hm).2.1.symm, fun s hs => ((h.1 m hm).2.2 s hs).symm⟩, fun j hj => (h.2 j hj).symm⟩
theorem VE.tr {A B C : AV} (h : VE A B) (k : VE B C) : VE A C := ⟨fun m hm => ⟨(h.1 m hm).1.trans (k.1 m hm).1, (h.1 m hm).2.1.trans (k.1 m hm).2.1, fun s hs => ((h.1 m hm).2.2 s hs).trans ((k.1 m hm).2.2 s hs)⟩, fun j hj => (h.2 j hj).trans (k.2 j hj)⟩
/-- a ring renewed -/
noncomputable def renA (C : CX) (V : AV) (ring : Int32) : AV := ((fun m => if bt ring m = true then ring else V.mo m), (fun m => if bt ring m = true then True else V.ts m), (fun m s => if bt ring m = true then (if C.wt ring s = true then aToA C.o V.an ring s else -3) else V.no m s), fun j => if bt ring (j / 16) = true then C.G ring V.an j else V.an j)
theorem aToA_c {o : Nat → Int32} {an an' : Nat → Int64} {ring : Int32} {s : Nat} (h : SL2 (o s)) (hA : ∀ j, j < 128 → o s = nI j → bt ring (j / 16) = false → an j = an' j) : aToA o an ring s = aToA o an' ring s := by
  unfold aToA
  rcases h with h | h | ⟨j, hj, h⟩
  · rw [h, if_pos (by decide), if_pos (by decide)]
  · rw [h, if_pos (by decide), if_pos (by decide)]
  · have hA' := hA j hj h
    have hz : ¬ nI j < 0 := by rw [ltz (by omega)]; exact id
    rw [h, if_neg hz, if_neg hz, cl_nI (by omega)]
    by_cases hb : bt ring (j / 16) = true
    · rw [if_pos hb, if_pos hb]
    · rw [if_neg hb, if_neg hb, hA' (by simpa using hb)]
/-- what a context keeps to: outside are slots, and answers follow from those below 128 -/
def COK (C : CX) : Prop := (∀ s, s < 128 → SL2 (C.o s)) ∧ ∀ ring a b, (∀ j, j < 128 → a j = b j) → ∀ j, C.G ring a j = C.G ring b j
theorem CXW_ok {σ : Sg} {w : Nat} (hO : OSL σ) : COK (CXW σ w) := by
  refine ⟨hO, fun ring a b h j => ?_⟩
  show ansOf (mkD (nEV ring (σ.1 26 w) (σ.1 7 0) a)) j = ansOf (mkD (nEV ring (σ.1 26 w) (σ.1 7 0) b)) j
  rw [nEV_eq (fun _ _ _ => rfl) (fun _ _ => rfl) (fun j hj => h j hj.1)]
theorem frA_c {C : CX} {V V' : AV} {ring : Int32} (hC : COK C) (hN : sm8 ring < 8) (h : VE V V') : frA C V ring ↔ frA C V' ring := by
  have go : ∀ {V V' : AV}, VE V V' → frA C V ring → frA C V' ring := by
    intro V V' h hf
    refine ⟨fun m hm hb => ?_, fun m hm hb => ?_, (h.1 _ hN).2.1.mp hf.2.2.1, fun s hs => ?_⟩
    · rw [← (h.1 m hm).1]; exact hf.1 m hm hb
    · rw [← (h.1 m hm).1]; exact hf.2.1 m hm hb
    · rw [← (h.1 _ hN).2.2 s hs, ← (h.1 _ hN).1, ← aToA_c (hC.1 s hs) (fun j hj _ _ => h.2 j hj)]
      exact hf.2.2.2 s hs
  exact ⟨go h, go h.sy⟩
theorem renA_c {C : CX} {V V' : AV} (ring : Int32) (hC : COK C) (h : VE V V') : VE (renA C V ring) (renA C V' ring) := by
  refine ⟨fun m hm => ⟨?_, ?_, fun s hs => ?_⟩, fun j hj => ?_⟩
  · show (if bt ring m = true then ring else V.mo m) = if bt ring m = true then ring else V'.mo m
    rw [(h.1 m hm).1]
  · show (if bt ring m = true then True else V.ts m) ↔ if bt ring m = true then True else V'.ts m
    by_cases hb : bt ring m = true
    · rw [if_pos hb, if_pos hb]
    · rw [if_neg hb, if_neg hb]; exact (h.1 m hm).2.1
  · show (if bt ring m = true then (if C.wt ring s = true then aToA C.o V.an ring s else -3) else V.no m s) = if bt ring m = true then (if C.wt ring s = true then aToA C.o V'.an ring s else -3) else V'.no m s
    rw [(h.1 m hm).2.2 s hs, aToA_c (hC.1 s hs) (fun j hj _ _ => h.2 j hj)]
  · show (if bt ring (j / 16) = true then C.G ring V.an j else V.an j) = if bt ring (j / 16) = true then C.G ring V'.an j else V'.an j
    rw [h.2 j hj, hC.2 ring V.an V'.an h.2 j]
/-- the states of all results -/
def own (σ : Sg) (r : Nat) : Nat → Nat → Int32 := fun c i => σ.1 c r i
def SF (σ : Sg) : Prop := ∀ r, r < 30 → ∀ i, i < 128 → σ.2.1 1 r i = ansOf (own σ r) i ∧ SFA (own σ r) i
theorem SF.aj {σ : Sg} {w : Nat} (h : SF σ) (hL : LOK σ w) : AJ (anW σ w) := fun j hj => by
  unfold anW
  rw [(h _ (hL.q (by omega)).2 j hj).1]
  exact ansOf_AJ _ hj
theorem ansOf_c {D D' : Nat → Nat → Int32} {i : Nat} (h : ∀ c, 31 ≤ c → c ≤ 36 → D c i = D' c i) : ansOf D i = ansOf D' i := by
  unfold ansOf
  rw [h 31 (by omega) (by omega), h 32 (by omega) (by omega), h 33 (by omega) (by omega), h 34 (by omega) (by omega)]
theorem SFA_c {D D' : Nat → Nat → Int32} {i : Nat} (h : ∀ c, 31 ≤ c → c ≤ 36 → D c i = D' c i) (hS : SFA D i) : SFA D' i := by
  unfold SFA at *
  rw [← h 31 (by omega) (by omega), ← h 32 (by omega) (by omega), ← h 33 (by omega) (by omega), ← h 34 (by omega) (by omega), ← h 35 (by omega) (by omega), ← h 36 (by omega) (by omega)]
  exact hS
/-- texts of a works are alike to those of now -/
def TSI (σ : Sg) (w : Nat) : Prop := ∀ s, s < 128 → (σ.1 26 w s = 0 ↔ σ.1 26 0 s = 0) ∧ ∀ side, side < 2 → refN (σ.1 26 w s) side = refN (σ.1 26 0 s) side
theorem TSI.z (σ : Sg) : TSI σ 0 := fun _ _ => ⟨Iff.rfl, fun _ _ => rfl⟩
theorem TSI.dok {σ : Sg} {w mc : Nat} {ring : Int32} (h : TSI σ w) (wf : WFN σ mc) (hr : ∀ m, m < 8 → bt ring m = true → m < mc) : DOK ring (σ.1 26 w) (σ.1 7 0) := by
  have hd := wf.dok hr
  refine ⟨fun s side hs hi h0 hsd => ?_, hd.2⟩
  rw [(h s hs).2 side hsd]
  exact hd.1 s side hs hi (fun q => h0 ((h s hs).1.mpr q)) hsd
