/-! WHAT CALLS KEEP: modules that are not there, declarations, runs -/
theorem MZ.mfr {σ σ' : Sg} {mc : Nat} (hZ : MZ σ mc) (hB : BASE σ mc) (h : MFR σ σ') : MZ σ' mc := fun m h1 h2 => ((h.ve hB.2.2.2.2.1).1 m h2).1.trans (hZ m h1 h2)
theorem MZ.ed {σ σ' : Sg} {mc : Nat} (hZ : MZ σ mc) (h : EDF σ σ') : MZ σ' mc := fun m h1 h2 => by
  have := hZ m h1 h2
  unfold modW LQ at this ⊢
  rw [h.2, h.1 30 _ (by omega) (by omega)]
  exact this
theorem pb_mo {C : CX} {q : Nat → Int32} {m : Nat} : ∀ d p n (V : AV), (∀ k, p ≤ k → k < p + d → ¬ bt (q k) m = true) → (pb C q d p n V).1.mo m = V.mo m
  | 0, p, n, V, _ => rfl
  | d + 1, p, n, V, h => by
    rw [pb]
    by_cases h0 : n = 0
    · rw [if_pos h0]
    · rw [if_neg h0]
      by_cases hf : frA C V (q p)
      · rw [ifP_t hf]
        exact pb_mo d (p + 1) n V (fun k h1 h2 => h k (by omega) (by omega))
      · rw [ifP_f hf]
        show (pb C q d (p + 1) (n - 1) (renA C V (q p))).1.mo m = V.mo m
        rw [pb_mo d (p + 1) (n - 1) _ (fun k h1 h2 => h k (by omega) (by omega)), ren_mo, if_neg (h p (by omega) (by omega))]
theorem MZ.build {σ0 σ : Sg} {mc k : Nat} (hZ : MZ σ0 mc) (hB : BASE σ0 mc) (hV : VE (VW σ 0) (pb (CXW σ0 0) (qR σ0) (cnR σ0) 0 k (VW σ0 0)).1) : MZ σ mc := fun m h1 h2 => by
  have e := (hV.1 m h2).1
  rw [pb_mo _ _ _ _ (fun p _ hp hb => by
    have := hB.rg.1.2.2.2 p (by omega) m h2 hb
    omega)] at e
  exact e.trans (hZ m h1 h2)
/-- what a run gives is kept where results are -/
theorem runV_c {σ σ' : Sg} (h : ∀ c, 31 ≤ c → c ≤ 36 → fld σ' c = fld σ c) : runV σ' = runV σ := by
  funext s
  unfold runV
  rw [h 31 (by omega) (by omega), h 34 (by omega) (by omega), h 35 (by omega) (by omega), h 36 (by omega) (by omega)]
theorem VFR.runV {σ σ' : Sg} (h : VFR σ σ') : runV σ' = runV σ := runV_c (fun c h1 _ => h.fl c h1)
theorem EDF.runV {σ σ' : Sg} (h : EDF σ σ') : runV σ' = runV σ := runV_c (fun c h1 h2 => by
  funext s
  unfold fld LQ
  rw [h.2, h.1 c _ (by omega) (by omega)])
/-- what the law keeps to between its calls -/
def LZ (σ : Sg) (mc : Nat) : Prop := LI σ mc ∧ MZ σ mc
theorem LZ.mfr {σ σ' : Sg} {mc : Nat} (h : LZ σ mc) (hM : MFR σ σ') (hB : BASE σ' mc) : LZ σ' mc := ⟨⟨hB, fun m hm => by
  rw [cntD_c (hM.t (by omega) (by omega) (by omega))]; exact h.1.2 m hm⟩, h.2.mfr h.1.1 hM⟩
theorem LZ.vfr {σ σ' : Sg} {mc : Nat} (h : LZ σ mc) (hM : VFR σ σ') : LZ σ' mc := h.mfr hM.mfr (hM.base h.1.1)
theorem LZ.ed {σ : Sg} {q : Sg × Int32} {mc : Nat} (h : LZ σ mc) (hE : EDQ σ mc q) : LZ q.1 mc := ⟨hE.1, h.2.ed hE.2.1⟩
theorem LZ.build {σ σ' : Sg} {mc k : Nat} (h : LZ σ mc) (hB : BASE σ' mc) (hF : BRF σ σ') (hV : VE (VW σ' 0) (pb (CXW σ 0) (qR σ) (cnR σ) 0 k (VW σ 0)).1) : LZ σ' mc := ⟨⟨hB, fun m hm => by
  rw [cntD_c (hF 26 0 (by omega) (by omega) (by omega) (by omega))]; exact h.1.2 m hm⟩, h.2.build h.1.1 hV⟩
