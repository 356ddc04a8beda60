/-! WORKS: passes do as the values do -/
def RUN (w : Nat) (σ0 σ : Sg) (V : AV) : Prop := RNF w σ0 σ ∧ IW σ w ∧ SF σ ∧ (w = 0 → GL σ0 → GL σ) ∧ VE (VW σ w) V
/-- rings as a works goes over them -/
def RINGS (σ : Sg) (mc c : Nat) : Prop := σ.1 18 0 0 = nI c ∧ c ≤ 8 ∧ (∀ p, p < c → NE8 (σ.1 17 0 p)) ∧ ∀ p, p < c → ∀ m, m < 8 → bt (σ.1 17 0 p) m = true → m < mc
section OPS
variable {w mc c : Nat} {σ0 σ : Sg} {V : AV}
theorem RUN.z (hS : SF σ0) (hI : IW σ0 w) : RUN w σ0 σ0 (VW σ0 w) := ⟨RNF.rf w σ0, hI, hS, fun _ h => h, VE.rf _⟩
theorem reason_at (hw : w < 2) (hW : WFN σ0 mc) (hR : RINGS σ0 mc c) (h : RUN w σ0 σ V) {p : Nat} (hp : p < c) : ∃ v, m_X9_reasonOf σ w (σ0.1 17 0 p) = some v ∧ (v = 0 ↔ frA (CXW σ0 w) V (σ0.1 17 0 p)) := by
  obtain ⟨hF, hI, hS, _, hV⟩ := h
  have hO := (hF.wfn hW).osl
  obtain ⟨v, a, b⟩ := q_reason (ring := σ0.1 17 0 p) hI.1 hO hI.2.2.2.2.1 (hR.2.2.1 p hp)
  refine ⟨v, a, b.trans ?_⟩
  rw [frR_A, hF.cx hw]
  exact frA_c (CXW_ok hW.osl) (sm8_s (hR.2.2.1 p hp)).1 hV
theorem renew_at (hw : w < 2) (hW : WFN σ0 mc) (hR : RINGS σ0 mc c) (h : RUN w σ0 σ V) {p : Nat} (hp : p < c) : ok (fun q => RUN w σ0 q.1 (renA (CXW σ0 w) V (σ0.1 17 0 p)) ∧ (q.2 = 0 ∨ q.2 = 1)) (m_X9_renew σ w (σ0.1 17 0 p)) := by
  obtain ⟨hF, hI, hS, hG, hV⟩ := h
  refine ok_w (s_renew (ring := σ0.1 17 0 p) hw hS (hF.wfn hW) (hR.2.2.2 p hp) (hR.2.2.1 p hp) hI) (fun q hq => ?_)
  obtain ⟨q1, q2, q3, q4, q5, q6⟩ := hq
  rw [hF.cx hw] at q5
  exact ⟨⟨hF.tr q1, q3, q4, fun a b => q6 a (hG a b), q5.tr (renA_c _ (CXW_ok hW.osl) hV)⟩, q2⟩
theorem s_all (hw : w < 2) (hW : WFN σ0 mc) (hR : RINGS σ0 mc c) (hS : SF σ0) (hI : IW σ0 w) : ok (fun q => RUN w σ0 q.1 (pa (CXW σ0 w) (fun p => σ0.1 17 0 p) c 0 (VW σ0 w)).1 ∧ q.2 = nI (pa (CXW σ0 w) (fun p => σ0.1 17 0 p) c 0 (VW σ0 w)).2) (m_X9_renewAll σ0 w) := by
  have hc := hR.2.1
  have key : ∀ d p n σ V k, p + d = c → d < n → RUN w σ0 σ V → ok (fun q => RUN w σ0 q.1 (pa (CXW σ0 w) (fun p => σ0.1 17 0 p) d p V).1 ∧ q.2 = nI (k + (pa (CXW σ0 w) (fun p => σ0.1 17 0 p) d p V).2)) (m_X9_renewAll_4 w n σ (nI k) (nI p)) := by
    intro d
    induction d with
    | zero =>
      intro p n σ V k hp hn h
      obtain ⟨n, rfl⟩ : ∃ z, n = z + 1 := ⟨n - 1, by omega⟩
      rw [m_X9_renewAll_4, if_pos (by rw [h.1.i 0 (by omega), hR.1, le_n (by omega) (by omega)]; omega)]
      exact ok_r ⟨h, rfl⟩
    | succ d ih =>
      intro p n σ V k hp hn h
      obtain ⟨n, rfl⟩ : ∃ z, n = z + 1 := ⟨n - 1, by omega⟩
      obtain ⟨v, v1, v2⟩ := reason_at hw hW hR h (show p < c by omega)
      have e17 : σ.1 17 0 (nI p).toNatClampNeg = σ0.1 17 0 p := by rw [cl_nI (by omega), h.1.i 0 (by omega)]
      rw [m_X9_renewAll_4, if_neg (by rw [h.1.i 0 (by omega), hR.1, le_n (by omega) (by omega)]; omega), chk_n (by omega) (by omega), e17, v1, bnd_s, pa]
      by_cases h0 : v = 0
      · rw [if_pos h0, ifP_t (v2.mp h0), nI_1]
        exact ih (p + 1) n σ V k (by omega) (by omega) h
      · rw [if_neg h0, ifP_f (fun z => h0 (v2.mpr z)), chk_n (by omega) (by omega)]
        refine ok_b2 (renew_at hw hW hR h (show p < c by omega)) (fun σ1 b hq => ?_)
        rw [nI_1, nI_1]
        refine ok_w (ih (p + 1) n σ1 _ (k + 1) (by omega) (by omega) hq.1) (fun q hq2 => ⟨hq2.1, ?_⟩)
        rw [hq2.2]
        congr 1
        show k + 1 + _ = k + (_ + 1)
        omega
  unfold m_X9_renewAll
  show ok _ (m_X9_renewAll_4 w 1000 σ0 (nI 0) (nI 0))
  refine ok_w (key c 0 1000 σ0 (VW σ0 w) 0 (by omega) (by omega) (RUN.z hS hI)) (fun q hq => ⟨hq.1, ?_⟩)
  rw [hq.2, Nat.zero_add]
theorem s_stale (hw : w < 2) (hW : WFN σ0 mc) (hR : RINGS σ0 mc c) (h : RUN w σ0 σ V) : ∃ k, k ≤ c ∧ m_X9_staleCount σ w = some (nI k) ∧ (k = 0 ↔ ∀ p, p < c → frA (CXW σ0 w) V (σ0.1 17 0 p)) := by
  have hc := hR.2.1
  have key : ∀ n p k, p ≤ c → c - p < n → k ≤ p → (k = 0 ↔ ∀ i, i < p → frA (CXW σ0 w) V (σ0.1 17 0 i)) → ∃ k', k' ≤ c ∧ m_X9_staleCount_4 σ w n (nI k) (nI p) = some (nI k') ∧ (k' = 0 ↔ ∀ p, p < c → frA (CXW σ0 w) V (σ0.1 17 0 p)) := by
    intro n
    induction n with
    | zero => intro p k _ h; omega
    | succ n ih =>
      intro p k hp hn hk hI
      by_cases e : p = c
      · subst e
        rw [m_X9_staleCount_4, if_pos (by rw [h.1.i 0 (by omega), hR.1, le_n (by omega) (by omega)]; omega)]
        exact ⟨k, hk, rfl, hI⟩
      · obtain ⟨v, v1, v2⟩ := reason_at hw hW hR h (show p < c by omega)
        have e17 : σ.1 17 0 (nI p).toNatClampNeg = σ0.1 17 0 p := by rw [cl_nI (by omega), h.1.i 0 (by omega)]
        rw [m_X9_staleCount_4, if_neg (by rw [h.1.i 0 (by omega), hR.1, le_n (by omega) (by omega)]; omega), chk_n (by omega) (by omega), e17, v1, bnd_s]
        by_cases h0 : v = 0
        · rw [if_pos h0, nI_1]
          have hI' : k = 0 ↔ ∀ i, i < p + 1 → frA (CXW σ0 w) V (σ0.1 17 0 i) := hI.trans ⟨fun z i hi => by
            by_cases e2 : i = p
            · rw [e2]; exact v2.mp h0
            · exact z i (by omega), fun z i hi => z i (by omega)⟩
          exact ih (p + 1) k (by omega) (by omega) (by omega) hI'
        · rw [if_neg h0, nI_1, nI_1]
          have hI' : k + 1 = 0 ↔ ∀ i, i < p + 1 → frA (CXW σ0 w) V (σ0.1 17 0 i) := ⟨fun z => absurd z (Nat.succ_ne_zero k), fun z => absurd (v2.mpr (z p (by omega))) h0⟩
          exact ih (p + 1) (k + 1) (by omega) (by omega) (by omega) hI'
  unfold m_X9_staleCount
  show ∃ k, k ≤ c ∧ m_X9_staleCount_4 σ w 1000 (nI 0) (nI 0) = some (nI k) ∧ _
  exact key 1000 0 0 (by omega) (by omega) (by omega) ⟨fun _ i hi => absurd hi (by omega), fun _ => rfl⟩
end OPS
