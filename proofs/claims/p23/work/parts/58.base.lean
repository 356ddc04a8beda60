/-! BASE: what holds between calls; a trial's beginning -/
def U0 (σ : Sg) : Prop := σ.1 30 0 0 = 0 ∧ ∀ s, s < 128 → σ.1 26 2 s = 0
def BASE (σ : Sg) (mc : Nat) : Prop := WFN σ mc ∧ MC σ mc ∧ RGS σ mc ∧ SF σ ∧ IW σ 0 ∧ GL σ ∧ σ.1 19 1 0 = 0 ∧ POOL σ 1 ∧ U0 σ
def cnR (σ : Sg) : Nat := (σ.1 18 0 0).toNatClampNeg
abbrev qR (σ : Sg) : Nat → Int32 := fun p => σ.1 17 0 p
theorem BASE.rg {σ : Sg} {mc : Nat} (h : BASE σ mc) : RINGS σ mc (cnR σ) ∧ TOP (CXW σ 0) (qR σ) (cnR σ) (REW σ) ∧ cnR σ ≤ mc ∧ ∀ p, p < cnR σ → ∀ f, f < 32 → bt (σ.1 14 0 (sm8 (qR σ p))) f = true → f < 8 := by
  obtain ⟨hW, _, ⟨hT, h15, c, hc, h18, rep, hC⟩, _⟩ := h
  have hmc := hW.2.1
  have e : cnR σ = c := by unfold cnR; rw [h18, cl_nI (by omega)]
  have hTop := top_of hW hT h15 (c := c) (rep := rep) hC
  rw [e]
  refine ⟨⟨h18, by omega, hTop.2.1, fun p hp m hm hb => (rg_two hmc hT h15 (rep := rep) hC hp (show m < 32 by omega) (show m < 32 by omega) hb hb).1⟩, hTop, hc, fun p hp f hf hb => ?_⟩
  obtain ⟨s8, sb⟩ := sm8_s (hTop.2.1 p hp)
  have s8' : sm8 (qR σ p) < 8 := s8
  have hs : sm8 (qR σ p) < mc := (rg_two hmc hT h15 (rep := rep) hC hp (show sm8 (qR σ p) < 32 by omega) (show sm8 (qR σ p) < 32 by omega) sb sb).1
  have := hT.1 _ f hs hf hb
  omega
/-- what was noted was wanted -/
theorem gd_wt {σ : Sg} {mc r : Nat} {ring : Int32} (hW : WFN σ mc) (hG : GD σ r) (h30 : σ.1 30 r 0 = ring) (hts : tsR σ 0 r) (hm : ∀ m, m < 8 → bt ring m = true → m < mc) : ∀ s, s < 128 → σ.2.1 0 r s = -3 ∨ wtR σ ring 8 s = true := by
  obtain ⟨_, τ, mt, g1, g2, g3, g4, _⟩ := hG
  rw [h30] at g2 g4
  have hRBO : RBO τ mt σ mc ring := fun m h8 hb => by
    have e1 : SAMX σ 0 σ (r + 2) m := hts m h8 (by rw [h30]; exact hb)
    exact ⟨(g2 m h8 hb).1, hm m h8 hb, ((g2 m h8 hb).2.sy).tr e1.sy⟩
  intro s hs
  rw [← sam_wtR g1 hW hRBO hs, g4 s hs]
  by_cases h : wtR τ ring 8 s = true
  · exact Or.inr h
  · rw [if_neg h]; exact Or.inl rfl
theorem BASE.vi {σ : Sg} {mc : Nat} (h : BASE σ mc) : VI (CXW σ 0) (qR σ) (cnR σ) (VW σ 0) := by
  obtain ⟨hR, hT, _⟩ := h.rg
  obtain ⟨hW, _, _, hS, hI, hG, _, _, hU⟩ := h
  refine ⟨hS.aj hI.1, fun p hp m hm hb h1 h2 s hs => ?_⟩
  rcases hG m hm with e | e
  · have h1' : σ.1 30 (LQ σ 0 m) 0 = qR σ p := h1
    rw [e, hU.1] at h1'
    rw [← h1', b_0] at hb; cases hb
  · exact gd_wt hW e h1 h2 (hR.2.2.2 p hp) s hs
/-- where trials (and runs) change things -/
def MFR (σ σ' : Sg) : Prop := (∀ c o, ¬ (19 ≤ c ∧ c ≤ 29 ∧ o = 1) → ¬ (30 ≤ c ∧ c ≤ 36 ∧ PL 1 o) → ¬ (26 ≤ c ∧ c ≤ 29 ∧ 2 ≤ o ∧ PL 1 (o - 2)) → ¬ (c = 0 ∧ o = 0) → σ'.1 c o = σ.1 c o) ∧ (∀ c o, ¬ PL 1 o → σ'.2.1 c o = σ.2.1 c o) ∧ ∀ c o, ¬ (c ≤ 2 ∧ o = 1) → σ'.2.2 c o = σ.2.2 c o
theorem MFR.rf (σ : Sg) : MFR σ σ := ⟨fun _ _ _ _ _ _ => rfl, fun _ _ _ => rfl, fun _ _ _ => rfl⟩
theorem MFR.tr {a b c : Sg} (h1 : MFR a b) (h2 : MFR b c) : MFR a c := ⟨fun x o p q r s => (h2.1 x o p q r s).trans (h1.1 x o p q r s), fun x o p => (h2.2.1 x o p).trans (h1.2.1 x o p), fun x o p => (h2.2.2 x o p).trans (h1.2.2 x o p)⟩
theorem RNF.mfr {σ σ' : Sg} (h : RNF 1 σ σ') : MFR σ σ' := ⟨fun c o h1 h2 h3 _ => h.1 c o (fun z => h1 ⟨z.1, by omega, z.2.2⟩) h2 h3, h.2.1, h.2.2⟩
section MFRS
variable {σ σ' : Sg}
theorem MFR.n (h : MFR σ σ') {c : Nat} (hc : 1 ≤ c ∧ c ≤ 18) (o : Nat) : σ'.1 c o = σ.1 c o := h.1 c o (by omega) (by omega) (by omega) (by omega)
theorem MFR.t (h : MFR σ σ') {c o : Nat} (hc : 26 ≤ c ∧ c ≤ 29) (ho : o < 22) (ho1 : ¬ o = 1) : σ'.1 c o = σ.1 c o := h.1 c o (by omega) (by omega) (fun z => by have := z.2.2.2.1; omega) (by omega)
theorem MFR.r (h : MFR σ σ') {c o : Nat} (hc : 30 ≤ c ∧ c ≤ 36) (ho : o < 21) : σ'.1 c o = σ.1 c o := h.1 c o (by omega) (fun z => by have := z.2.2.1; omega) (by omega) (by omega)
theorem MFR.j (h : MFR σ σ') {c o : Nat} (ho : o < 21) : σ'.2.1 c o = σ.2.1 c o := h.2.1 c o (fun z => by have := z.1; omega)
theorem MFR.lq (h : MFR σ σ') (m : Nat) : LQ σ' 0 m = LQ σ 0 m := by unfold LQ; rw [h.2.2 0 0 (by omega)]
theorem MFR.wfn (h : MFR σ σ') {mc : Nat} (hW : WFN σ mc) : WFN σ' mc := ⟨hW.1.c (fun c h1 h2 => h.t ⟨h1, by omega⟩ (by omega) (by omega)), hW.2.1, hW.2.2.c (fun c hc => by
  have h0 : ¬ c = 0 := by rintro rfl; cases hc
  rcases nmC_le hc with q | q
  · exact h.n ⟨by omega, by omega⟩ 0
  · exact h.t ⟨q.1, by omega⟩ (by omega) (by omega))⟩
theorem MFR.cx (h : MFR σ σ') : CXW σ' 0 = CXW σ 0 := by
  have e : ∀ n ring s, wtR σ' ring n s = wtR σ ring n s := by
    intro n ring s
    induction n with
    | zero => rfl
    | succ n ih => rw [wtR, wtR, ih]; unfold wtB; rw [h.n ⟨by omega, by omega⟩ 0]
  unfold CXW
  rw [h.n (c := 6) ⟨by omega, by omega⟩ 0, h.n (c := 7) ⟨by omega, by omega⟩ 0, h.t (c := 26) ⟨by omega, by omega⟩ (by omega) (by omega)]
  congr 1
  congr 1
  funext ring s
  exact e 8 ring s
theorem MFR.ve (h : MFR σ σ') (hI : IW σ 0) : VE (VW σ' 0) (VW σ 0) := by
  have hl : ∀ m, m < 8 → LQ σ 0 m < 20 := hI.2.1
  refine ⟨fun m hm => ⟨?_, ?_, fun s hs => ?_⟩, fun j hj => ?_⟩
  · show σ'.1 30 (LQ σ' 0 m) 0 = σ.1 30 (LQ σ 0 m) 0
    rw [h.lq, h.r ⟨by omega, by omega⟩ (by have := hl m hm; omega)]
  · show tsR σ' 0 (LQ σ' 0 m) ↔ tsR σ 0 (LQ σ 0 m)
    have := hl m hm
    rw [h.lq]
    exact tsR_c (h.r ⟨by omega, by omega⟩ (by omega)) (fun x h1 h2 => ⟨h.t ⟨h1, by omega⟩ (by omega) (by omega), h.t ⟨h1, by omega⟩ (by omega) (by omega)⟩)
  · show σ'.2.1 0 (LQ σ' 0 m) s = σ.2.1 0 (LQ σ 0 m) s
    rw [h.lq, h.j (by have := hl m hm; omega)]
  · show σ'.2.1 1 (LQ σ' 0 (j / 16)) j = σ.2.1 1 (LQ σ 0 (j / 16)) j
    rw [h.lq, h.j (by have := hl (j / 16) (by omega); omega)]
theorem RGS.c {mc : Nat} (h : ∀ c, (13 ≤ c ∧ c ≤ 18) ∨ (26 ≤ c ∧ c ≤ 28) → σ'.1 c 0 = σ.1 c 0) (hR : RGS σ mc) : RGS σ' mc := by
  obtain ⟨⟨a1, a2, a3⟩, a4, a5⟩ := hR
  have hlo : ∀ m f, LO σ' mc m f ↔ LO σ mc m f := fun m f => by
    unfold LO cnt imp
    rw [h 27 (by omega), h 28 (by omega)]
  have hrg : ∀ m f, rgB σ' mc m f = rgB σ mc m f := fun m f => by unfold rgB; rw [h 14 (by omega)]
  refine ⟨⟨?_, fun m f hl => ?_, ?_⟩, fun m f hm hf => ?_, ?_⟩
  · rw [h 14 (by omega)]; exact a1
  · rw [h 14 (by omega)]; exact a2 m f ((hlo m f).mp hl)
  · rw [h 14 (by omega)]; exact a3
  · rw [h 15 (by omega), hrg]; exact a4 m f hm hf
  · rw [h 14 (by omega), h 15 (by omega), h 17 (by omega), h 18 (by omega)]; exact a5
theorem BASE.mfr {mc : Nat} (hB : BASE σ mc) (h : MFR σ σ') (hS : SF σ') (h19 : σ'.1 19 1 0 = 0) : BASE σ' mc := by
  obtain ⟨hW, hM, hR, _, hI, hG, _, hP, hU⟩ := hB
  have hl : ∀ m, m < 8 → LQ σ 0 m < 20 := hI.2.1
  have gd : ∀ r, r < 20 → GD σ r → GD σ' r := fun r hr g => g.c (h.r ⟨by omega, by omega⟩ (by omega)) (fun x h1 h2 => h.t ⟨h1, by omega⟩ (by omega) (by omega)) (fun x _ => h.j (by omega))
  refine ⟨h.wfn hW, ⟨by rw [h.t ⟨by omega, by omega⟩ (by omega) (by omega)]; exact hM.1, hM.2⟩, hR.c (fun c hc => ?_), hS, ?_, fun m hm => ?_, h19, fun k hk => by rw [h.2.2 3 1 (by omega)]; exact hP k hk, ?_⟩
  · rcases hc with z | z
    · exact h.n ⟨by omega, by omega⟩ 0
    · exact h.t ⟨by omega, by omega⟩ (by omega) (by omega)
  · obtain ⟨i1, i2, ⟨c, ⟨s1, s2, s3⟩, i3⟩, i4, i5, i6⟩ := hI
    refine ⟨fun m hm => by rw [h.2.2 0 0 (by omega)]; exact i1 m hm, fun m hm => by rw [h.lq]; exact i2 m hm, ⟨c, ⟨by rw [h.1 19 0 (by omega) (by omega) (by omega) (by omega)]; exact s1, s2, fun k hk => by rw [h.2.2 1 0 (by omega)]; exact s3 k hk⟩, fun k hk => ?_⟩, fun k hk => by rw [h.2.2 3 0 (by omega)]; exact i4 k hk, ?_, TSI.z _⟩
    · have e : KQ σ' 0 k = KQ σ 0 k := by unfold KQ; rw [h.2.2 1 0 (by omega)]
      rw [e]
      exact ⟨gd _ (by have := (i3 k hk).2.2; omega) (i3 k hk).1, (i3 k hk).2⟩
    · unfold CTR cnt at *
      rw [h.t ⟨by omega, by omega⟩ (by omega) (by omega)]; exact i5
  · rw [h.lq]
    rcases hG m hm with e | e
    · exact Or.inl e
    · exact Or.inr (gd _ (hl m hm) e)
  · refine ⟨by rw [h.r ⟨by omega, by omega⟩ (by omega)]; exact hU.1, ?_⟩
    rw [h.t ⟨by omega, by omega⟩ (by omega) (by omega)]; exact hU.2
end MFRS
