/-! THE LAW's isBuilt, whole -/
section ISB
variable {σ0 τ : Sg} {mc m j : Nat} {P : Sg × Int32 → Prop} {X1 : Int32} {k4 : Sg → Int32 → Int32 → Option (Sg × Int32)} {k12 : Sg → Int32 → Int32 → Int32 → Option (Sg × Int32)}
theorem s_ib121 (hB : BASE σ0 mc) (hF : VFR σ0 τ) (hm : m < mc) (hj : j < 16) (hd : dlS σ0 (m * 16 + j) = true) (hk : ∀ τ', VFR σ0 τ' → ok P (k12 τ' (nI (cntB (fyB σ0) (m * 16 + j + 1))) (nI m) (nI (j + 1)))) : ok P (m_L_isBuilt_121 X1 k4 k12 τ (nI (cntB (fyB σ0) (m * 16 + j))) (nI m) (nI j) (fld σ0 31 (m * 16 + j))) := by
  have hmc := hB.2.1.2
  have hBt := hF.base hB
  have hs : m * 16 + j < 128 := by omega
  have hn := hk τ hF
  rw [cntB] at hn
  unfold m_L_isBuilt_121
  by_cases h0 : fld σ0 31 (m * 16 + j) = 0
  · rw [if_pos h0, nI_1]
    rw [if_neg (by unfold fyB; rw [hd, h0]; simp)] at hn
    exact hn
  · have hf : fyB σ0 (m * 16 + j) = true := by unfold fyB; rw [hd]; simp [h0]
    obtain ⟨q0, q1, q2⟩ := q_fault (σ := τ) hBt.2.2.2.2.1.1 hs (by rw [hF.fy]; exact hf)
    rw [hF.fy] at q0 q1 q2
    rw [if_neg h0, q1, bnd_s, if_pos (by rw [show (m * 16 + j) / 16 = m by omega]), q2, bnd_s, if_pos (by rw [show (m * 16 + j) % 16 = j by omega]), q0, bnd_s, if_pos (by rw [hF.fl 31 (by omega)]), nI_1, nI_1]
    rw [if_pos hf] at hn
    exact hn
theorem s_ib78 (hB : BASE σ0 mc) (hF : VFR σ0 τ) (hm : m < mc) (hj : j < 16) (hd : dlS σ0 (m * 16 + j) = true) (hk : ∀ τ', VFR σ0 τ' → ok P (k12 τ' (nI (cntB (fyB σ0) (m * 16 + j + 1))) (nI m) (nI (j + 1)))) : ok P (m_L_isBuilt_78 X1 k4 k12 τ (nI (cntB (fyB σ0) (m * 16 + j))) (nI m) (nI j) (fld σ0 31 (m * 16 + j))) := by
  have hmc := hB.2.1.2
  have hBt := hF.base hB
  have hs : m * 16 + j < 128 := by omega
  have hL := hBt.2.2.2.2.1.1
  have hdt : dlS τ (m * 16 + j) = true := by rw [hF.dl]; exact hd
  obtain ⟨v, hv, hv1⟩ := q_built1 hBt.2.1 hL hBt.2.2.2.1 hm hj hdt
  have hA := (sf_at hL hBt.2.2.2.1 hs).2
  unfold m_L_isBuilt_78
  rw [hv, bnd_s]
  by_cases h1 : v = 1
  · have h33 := hv1 h1
    obtain ⟨h31, h35, h36⟩ := hA.2.2.2.1 h33
    rw [if_pos h1, q_built3 hBt.2.1 hL hm hj hdt h35 h36, bnd_s, if_pos rfl]
    refine ok_b2 (s_run hBt hm hj) (fun σ1 r h => ?_)
    obtain ⟨g1, g2⟩ := h
    have g2' : r = runV τ (m * 16 + j) := g2
    have hB1 := g1.base hBt
    have hF1 := hF.tr g1
    rw [q_built2 hB1.2.1 hB1.2.2.2.2.1.1 hm hj (by rw [hF1.dl]; exact hd), bnd_s, if_pos (by rw [g2', run_plain h31 h35 h36, g1.fl 34 (by omega)])]
    exact s_ib121 hB hF1 hm hj hd hk
  · rw [if_neg h1]
    exact s_ib121 hB hF hm hj hd hk
end ISB
theorem s_isBuilt {σ0 : Sg} {mc : Nat} (hB : BASE σ0 mc) (hZ : MZ σ0 mc) : ok (fun q => VFR σ0 q.1 ∧ q.2 = 1) (m_L_isBuilt σ0 (nI mc)) := by
  have hmc := hB.2.1.2
  have inner : ∀ (m : Nat) (k4 : Sg → Int32 → Int32 → Option (Sg × Int32)), m < mc → (∀ τ, VFR σ0 τ → ok (fun q => VFR σ0 q.1 ∧ q.2 = 1) (k4 τ (nI (cntB (fyB σ0) ((m + 1) * 16))) (nI (m + 1)))) → ∀ n j τ, j ≤ 16 → 16 - j < n → VFR σ0 τ → ok (fun q => VFR σ0 q.1 ∧ q.2 = 1) (m_L_isBuilt_12 (nI mc) k4 n τ (nI (cntB (fyB σ0) (m * 16 + j))) (nI m) (nI j)) := by
    intro m k4 hm hk4 n
    induction n with
    | zero => intro j τ _ h; omega
    | succ n ih =>
      intro j τ hj hn hF
      rw [m_L_isBuilt_12]
      by_cases h : j = 16
      · subst h
        rw [if_pos (by decide), nI_1, show m * 16 + 16 = (m + 1) * 16 by omega]
        exact hk4 τ hF
      · have hj' : j < 16 := by omega
        have hs : m * 16 + j < 128 := by omega
        have hBt := hF.base hB
        have hL := hBt.2.2.2.2.1.1
        have hA := (sf_at hL hBt.2.2.2.1 hs).2
        have hk : ∀ τ', VFR σ0 τ' → ok (fun q => VFR σ0 q.1 ∧ q.2 = 1) (m_L_isBuilt_12 (nI mc) k4 n τ' (nI (cntB (fyB σ0) (m * 16 + j + 1))) (nI m) (nI (j + 1))) := fun τ' h' => ih (j + 1) τ' (by omega) (by omega) h'
        rw [if_neg (by rw [le_16 (by omega)]; omega), q_built0 hBt.2.1 hL hm hj', bnd_s, hF.dl, hF.fl 31 (by omega)]
        by_cases hd : dlS σ0 (m * 16 + j) = true
        · rw [if_pos hd]
          have hV : FV (fld σ0 31 (m * 16 + j)) := by
            rw [← hF.fl 31 (by omega)]; exact hA.2.2.2.2.2.2.2
          obtain ⟨p1, p2⟩ := hV.pos
          rw [if_pos p1]
          by_cases h0 : fld σ0 31 (m * 16 + j) = 0
          · rw [if_pos (p2.mpr h0)]
            exact s_ib78 hB hF hm hj' hd hk
          · rw [if_neg (fun z => h0 (p2.mp z))]
            refine ok_b2 (s_run hBt hm hj') (fun σ1 r h => ?_)
            obtain ⟨g1, g2⟩ := h
            have g2' : r = runV τ (m * 16 + j) := g2
            have hB1 := g1.base hBt
            have hF1 := hF.tr g1
            have h31 : ¬ fld τ 31 (m * 16 + j) = 0 := by rw [hF.fl 31 (by omega)]; exact h0
            obtain ⟨_, a34, a35, a36⟩ := hA.2.1 h31
            have hd1 : dlS σ1 (m * 16 + j) = true := by rw [hF1.dl]; exact hd
            rw [if_pos (by rw [g2', run_fault h31]), q_built2 hB1.2.1 hB1.2.2.2.2.1.1 hm hj' hd1, bnd_s, if_pos (by rw [g1.fl 34 (by omega)]; exact a34), q_built3 hB1.2.1 hB1.2.2.2.2.1.1 hm hj' hd1 (by rw [g1.fl 35 (by omega)]; exact a35) (by rw [g1.fl 36 (by omega)]; exact a36), bnd_s, if_pos rfl]
            exact s_ib78 hB hF1 hm hj' hd hk
        · rw [if_neg hd, if_neg (by decide), nI_1]
          have h2 := hk τ hF
          rw [cntB, if_neg (by unfold fyB; simp [hd])] at h2
          exact h2
  have outer : ∀ n m τ, m ≤ mc → mc - m < n → VFR σ0 τ → ok (fun q => VFR σ0 q.1 ∧ q.2 = 1) (m_L_isBuilt_4 (nI mc) n τ (nI (cntB (fyB σ0) (m * 16))) (nI m)) := by
    intro n
    induction n with
    | zero => intro m τ _ h; omega
    | succ n ih =>
      intro m τ hm hn hF
      rw [m_L_isBuilt_4]
      by_cases h : m = mc
      · subst h
        have hBt := hF.base hB
        unfold m_X10_many
        rw [if_pos (by rw [le_n (by omega) (by omega)]; omega), q_within τ (by decide) (by decide), bnd_s, if_neg (by decide), if_neg (by decide), if_neg (by decide), if_neg (by decide), if_neg (by decide), if_pos (by decide), q_faults hBt.2.2.2.2.1.1, bnd_s, bnd_s, hF.fy, cntB_up (a := m * 16) 128 (by omega) (fun i h1 h2 => by unfold fyB; rw [hZ.dl hB h1 h2]; rfl), if_pos rfl]
        exact ok_r ⟨hF, rfl⟩
      · rw [if_neg (by rw [le_n (by omega) (by omega)]; omega)]
        exact inner m _ (by omega) (fun τ' h' => ih (m + 1) τ' (by omega) (by omega) h') 1000 0 τ (by omega) (by omega) hF
  exact outer 1000 0 σ0 (by omega) (by omega) (VFR.rf σ0)
