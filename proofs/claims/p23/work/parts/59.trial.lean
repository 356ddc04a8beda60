/-! TRIALS: their beginning; would build -/
/-- behind startFrom -/
def SFR (σ σ' : Sg) : Prop := (∀ c o, ¬ (26 ≤ c ∧ c ≤ 29 ∧ o = 1) → σ'.1 c o = σ.1 c o) ∧ σ'.2.1 = σ.2.1 ∧ (∀ c o, ¬ (c = 0 ∧ o = 1) → σ'.2.2 c o = σ.2.2 c o) ∧ TCP σ σ' 1 0 ∧ ∀ m, m < 8 → σ'.2.2 0 1 m = σ.2.2 0 0 m
theorem s_start {σ0 : Sg} (hL : LOK σ0 0) : ok (SFR σ0) (m_X9_startFrom σ0 1 0) := by
  unfold m_X9_startFrom
  refine ok_b (q_copy (show ¬ (1 : Nat) = 0 by omega)) (fun σa ha => ?_)
  obtain ⟨a1, a2, a3⟩ := ha
  have key : ∀ n m σ, m ≤ 8 → 8 - m < n → (σ.1 = σa.1 ∧ σ.2.1 = σa.2.1 ∧ (∀ c o, ¬ (c = 0 ∧ o = 1) → σ.2.2 c o = σ0.2.2 c o) ∧ ∀ i, i < m → σ.2.2 0 1 i = σ0.2.2 0 0 i) → ok (SFR σ0) (m_X9_startFrom_13 1 0 n σ (nI m)) := by
    intro n
    induction n with
    | zero => intro m _ _ h; omega
    | succ n ih =>
      intro m σ hm hn hI
      obtain ⟨i1, i2, i3, i4⟩ := hI
      rw [m_X9_startFrom_13]
      by_cases e : m = 8
      · subst e
        rw [if_pos (by decide)]
        refine ok_r ⟨fun c o h => by rw [i1]; exact a2 c o h, by rw [i2, a3], i3, ?_, i4⟩
        unfold TCP at *
        rw [i1]; exact a1
      · have hl := hL.q (show m < 8 by omega)
        rw [if_neg (by rw [le_8 (by omega)]; omega), lenP0, chk_n (by omega) (by omega), cl_nI (by omega), i3 0 0 (by omega), hl.1, bnd_s, chk_e (by rw [decide_eq_true_eq]; exact hl.2), lenP0, chk_n (by omega) (by omega), st_s, nI_1]
        refine ih (m + 1) _ (by omega) (by omega) ⟨i1, i2, fun c o hc => by rw [wP_co _ _ _ _ _ hc]; exact i3 c o hc, fun i hi => ?_⟩
        rw [wP_1]
        by_cases e2 : i = m
        · rw [if_pos ⟨rfl, rfl, e2⟩, e2, hl.1]
        · rw [if_neg (fun q => e2 q.2.2)]; exact i4 i (by omega)
  show ok _ (m_X9_startFrom_13 1 0 1000 σa (nI 0))
  exact key 1000 0 σa (by omega) (by omega) ⟨rfl, rfl, fun c o _ => by rw [a3], fun i hi => absurd hi (by omega)⟩
section SFRS
variable {σ σ' : Sg} {mc : Nat}
theorem SFR.mfr (h : SFR σ σ') : MFR σ σ' := ⟨fun c o h1 _ _ _ => h.1 c o (fun z => h1 ⟨by omega, by omega, z.2.2⟩), fun c o _ => by rw [h.2.1], fun c o h1 => h.2.2.1 c o (fun z => h1 ⟨by omega, z.2⟩)⟩
theorem SFR.base (h : SFR σ σ') (hB : BASE σ mc) : BASE σ' mc := hB.mfr h.mfr (fun r hr i hi => by
  obtain ⟨x1, x2⟩ := hB.2.2.2.1 r hr i hi
  have e : ∀ c, 31 ≤ c → c ≤ 36 → own σ r c i = own σ' r c i := fun c h1 h2 => by unfold own; rw [h.1 c r (by omega)]
  rw [h.2.1]
  exact ⟨x1.trans (ansOf_c e), SFA_c e x2⟩) (by rw [h.1 19 1 (by omega)]; exact hB.2.2.2.2.2.2.1)
/-- the trial's works are then as those of now -/
theorem SFR.iw (h : SFR σ σ') (hB : BASE σ mc) : IW σ' 1 := by
  obtain ⟨hW, hM, hR, hS, hI, hG, h19, hP, hU⟩ := hB
  have h26 : ∀ s, s < 128 → σ'.1 26 1 s = σ.1 26 0 s := h.2.2.2.1.1
  have h28 : ∀ m, m < 8 → σ'.1 28 1 m = σ.1 28 0 m := h.2.2.2.1.2.2.1
  refine ⟨fun m hm => by rw [h.2.2.2.2 m hm]; exact hI.1 m hm, fun m hm => ?_, ⟨0, ⟨by rw [h.1 19 1 (by omega)]; exact h19, by omega, fun k hk => absurd hk (by omega)⟩, fun k hk => absurd hk (by omega)⟩, fun k hk => by rw [h.2.2.1 3 1 (by omega)]; exact hP k hk, fun m hm => ?_, fun s hs => ?_⟩
  · have e : LQ σ' 1 m = LQ σ 0 m := by unfold LQ; rw [h.2.2.2.2 m hm]
    rw [e]
    have := hI.2.1 m hm
    omega
  · unfold cnt
    rw [h28 m hm]
    exact hI.2.2.2.2.1 m hm
  · rw [h26 s hs, h.1 26 0 (by omega)]
    exact ⟨Iff.rfl, fun _ _ => rfl⟩
theorem SFR.ve (h : SFR σ σ') (hB : BASE σ mc) : VE (VW σ' 1) (VW σ 0) := by
  obtain ⟨hW, hM, hR, hS, hI, hG, h19, hP, hU⟩ := hB
  have hl : ∀ m, m < 8 → LQ σ' 1 m = LQ σ 0 m := fun m hm => by unfold LQ; rw [h.2.2.2.2 m hm]
  refine ⟨fun m hm => ⟨?_, ?_, fun s hs => ?_⟩, fun j hj => ?_⟩
  · show σ'.1 30 (LQ σ' 1 m) 0 = σ.1 30 (LQ σ 0 m) 0
    rw [hl m hm, h.1 30 _ (by omega)]
  · show tsR σ' 1 (LQ σ' 1 m) ↔ tsR σ 0 (LQ σ 0 m)
    rw [hl m hm]
    have e1 : ∀ j, j < 128 → σ'.1 26 1 j = σ.1 26 0 j := h.2.2.2.1.1
    have e2 : ∀ j, j < 40 → σ'.1 27 1 j = σ.1 27 0 j := h.2.2.2.1.2.1
    have e3 : ∀ j, j < 8 → σ'.1 28 1 j = σ.1 28 0 j := h.2.2.2.1.2.2.1
    unfold tsR
    rw [h.1 30 _ (by omega)]
    have : ∀ m', m' < 8 → (SAME σ' 1 (LQ σ 0 m + 2) m' ↔ SAME σ 0 (LQ σ 0 m + 2) m') := fun m' hm' => by
      have ec : cnt σ' 1 m' = cnt σ 0 m' := by unfold cnt; rw [e3 m' hm']
      have h5 := (hI.2.2.2.2.1 m' hm').1
      unfold SAME
      rw [ec, e3 m' hm', h.1 26 (LQ σ 0 m + 2) (by omega), h.1 27 (LQ σ 0 m + 2) (by omega), h.1 28 (LQ σ 0 m + 2) (by omega)]
      constructor
      · rintro ⟨a, b, d⟩
        exact ⟨a, fun k hk => by rw [← e2 _ (by omega)]; exact b k hk, fun n hn => by rw [← e1 _ (by omega)]; exact d n hn⟩
      · rintro ⟨a, b, d⟩
        exact ⟨a, fun k hk => by rw [e2 _ (by omega)]; exact b k hk, fun n hn => by rw [e1 _ (by omega)]; exact d n hn⟩
    exact ⟨fun z m' h1 h2 => (this m' h1).mp (z m' h1 h2), fun z m' h1 h2 => (this m' h1).mpr (z m' h1 h2)⟩
  · show σ'.2.1 0 (LQ σ' 1 m) s = σ.2.1 0 (LQ σ 0 m) s
    rw [hl m hm, h.2.1]
  · show σ'.2.1 1 (LQ σ' 1 (j / 16)) j = σ.2.1 1 (LQ σ 0 (j / 16)) j
    rw [hl _ (by omega), h.2.1]
theorem SFR.cx (h : SFR σ σ') : CXW σ' 1 = CXW σ 0 := by
  rw [← h.mfr.cx]
  unfold CXW
  have e : ∀ ring an, nEV ring (σ'.1 26 1) (σ'.1 7 0) an = nEV ring (σ'.1 26 0) (σ'.1 7 0) an := fun ring an => nEV_eq (fun s hs _ => by rw [h.1 26 0 (by omega)]; exact h.2.2.2.1.1 s hs) (fun _ _ => rfl) (fun _ _ => rfl)
  congr 1
  congr 1
  funext ring an i
  rw [e]
end SFRS
/-- how many a build of all would renew -/
noncomputable def dueS (σ : Sg) : Nat := (pa (CXW σ 0) (qR σ) (cnR σ) 0 (VW σ 0)).2
theorem MFR.rg {σ σ' : Sg} (h : MFR σ σ') : qR σ' = qR σ ∧ cnR σ' = cnR σ ∧ REW σ' = REW σ := by
  refine ⟨?_, ?_, ?_⟩
  · funext p; show σ'.1 17 0 p = σ.1 17 0 p; rw [h.n (c := 17) ⟨by omega, by omega⟩ 0]
  · unfold cnR; rw [h.n (c := 18) ⟨by omega, by omega⟩ 0]
  · funext p m; unfold REW; rw [h.n (c := 17) ⟨by omega, by omega⟩ 0, h.n (c := 14) ⟨by omega, by omega⟩ 0]
theorem MFR.due {σ σ' : Sg} {mc : Nat} (h : MFR σ σ') (hB : BASE σ mc) : dueS σ' = dueS σ := by
  obtain ⟨hR, hT, _⟩ := hB.rg
  unfold dueS
  rw [h.rg.1, h.rg.2.1, h.cx]
  exact (pa_c hT.1 hT.2.1 _ _ _ _ (by omega) (h.ve hB.2.2.2.2.1)).2
theorem due_le {σ : Sg} {mc : Nat} (hB : BASE σ mc) : dueS σ ≤ 8 := by
  have h1 : dueS σ ≤ cnR σ := pa_le _ _ _
  have := hB.rg.2.2.1
  have := hB.1.2.1
  omega
/-- behind a trial's renewals -/
theorem RUN.base {σ σ' σ2 : Sg} {mc : Nat} {V : AV} (hB : BASE σ mc) (h : MFR σ σ') (hr : RUN 1 σ' σ2 V) : MFR σ σ2 ∧ BASE σ2 mc := by
  have hm := h.tr hr.1.mfr
  obtain ⟨c, hS, _⟩ := hr.2.1.2.2.1
  have hc : c ≤ 0 := hS.2.1
  have h0 : c = 0 := by omega
  subst h0
  exact ⟨hm, hB.mfr hm hr.2.2.1 hS.1⟩
theorem SFR.rings {σ σ' : Sg} {mc c : Nat} (h : SFR σ σ') (hR : RINGS σ mc c) : RINGS σ' mc c := by
  unfold RINGS at *
  rw [h.1 17 0 (by omega), h.1 18 0 (by omega)]; exact hR
theorem s_would {σ : Sg} {mc : Nat} (hB : BASE σ mc) : ok (fun q => MFR σ q.1 ∧ BASE q.1 mc ∧ q.2 = nI (dueS σ)) (m_X10_wouldBuild σ) := by
  obtain ⟨hR, hT, _⟩ := hB.rg
  unfold m_X10_wouldBuild
  refine ok_b (s_start hB.2.2.2.2.1.1) (fun σ1 h1 => ?_)
  have hB1 := h1.base hB
  refine ok_b2 (s_all (w := 1) (by omega) hB1.1 (h1.rings hR) hB1.2.2.2.1 (h1.iw hB)) (fun σ2 v hq => ?_)
  obtain ⟨q1, q2⟩ := hq
  obtain ⟨m1, m2⟩ := RUN.base hB h1.mfr q1
  refine ok_r ⟨m1, m2, ?_⟩
  show v = _
  rw [show v = _ from q2]
  congr 1
  have hC : COK (CXW σ1 1) := CXW_ok hB1.1.osl
  have e17 : (fun p => σ1.1 17 0 p) = qR σ := h1.mfr.rg.1
  rw [e17, h1.cx]
  exact (pa_c hT.1 hT.2.1 _ _ _ _ (by omega) (h1.ve hB)).2
