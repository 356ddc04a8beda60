/-! MAKER: the members and their direct faults -/
def updD (D : Nat → Nat → Int32) (c i : Nat) (v : Int32) : Nat → Nat → Int32 := fun c' i' => if c' = c ∧ i' = i then v else D c' i'
theorem OWN.w {D : Nat → Nat → Int32} {σ : Sg} {r : Nat} (h : OWN D σ r) (c i : Nat) (v : Int32) : OWN (updD D c i v) (wI σ c r i v) r := by
  intro c' i' h1 h2 h3
  rw [wI_1]
  unfold updD
  by_cases e : c' = c ∧ i' = i
  · rw [if_pos ⟨e.1, rfl, e.2⟩, if_pos e]
  · rw [if_neg (fun q => e ⟨q.1, q.2.2⟩), if_neg e]
    exact h c' i' h1 h2 h3
theorem OWN.o {D : Nat → Nat → Int32} {σ : Sg} {r : Nat} (h : OWN D σ r) (c o i : Nat) (v : Int32) (hc : c < 31) : OWN D (wI σ c o i v) r := by
  intro c' i' h1 h2 h3
  rw [wI_1, if_neg (fun q => by omega)]
  exact h c' i' h1 h2 h3
theorem OWN.e {D D' : Nat → Nat → Int32} {σ : Sg} {r : Nat} (h : OWN D σ r) (hD : ∀ c i, 31 ≤ c → c ≤ 36 → i < 128 → D c i = D' c i) : OWN D' σ r := fun c i h1 h2 h3 => (h c i h1 h2 h3).trans (hD c i h1 h2 h3)
theorem MEMS.f {e : EV} {σ σ' : Sg} {w : Nat} (h : MEMS e σ w) (h20 : σ'.1 20 w = σ.1 20 w) (h21 : σ'.1 21 w = σ.1 21 w) (h22 : σ'.1 22 w = σ.1 22 w) : MEMS e σ' w := by
  unfold MEMS at *
  rw [h20, h21, h22]; exact h
theorem mem_in {e : EV} {s : Nat} (h : e.mem s = true) : inR e.ρ s = true ∧ ¬ e.dec s = 0 := by
  unfold EV.mem memB at h; simpa using h
/-- what findMembers makes of the states -/
def D1 (e : EV) (D : Nat → Nat → Int32) (n : Nat) : Nat → Nat → Int32 := fun c i => if c = 32 ∧ i < n ∧ e.mem i = true then (if bt (e.dec i) 1 = true then 1 else 0) else D c i
theorem q_target {e : EV} {σ : Sg} {w r s side : Nat} (hV : EOK e) (hE : ER e σ w r) (hs : s < 128) (hm : e.mem s = true) (hsd : side < 2) (w' : Nat) :
    m_X3_targetOf σ w' (nI s) (if refN (e.dec s) side = 0 then -1 else nI (refN (e.dec s) side - 1)) = some (e.T s side) := by
  unfold m_X3_targetOf EV.T tgt
  by_cases h0 : refN (e.dec s) side = 0
  · rw [if_pos h0, if_pos rfl, if_pos h0]
  · have h16 := hV.1 s side hs hm hsd
    have hx := hE.2.2.1 s side hs hm hsd h0
    rw [if_neg h0, if_neg (nI_ne_m1 (by omega)), if_neg h0, dv16 (by omega), ix16, chk_n (by omega) (by omega), cl_nI (by omega), hx]
theorem zb_01 (b : Bool) : zb (if b = true then 1 else 0) = true := by cases b <;> rfl
theorem s_members {e : EV} {D : Nat → Nat → Int32} {σ0 : Sg} {w r : Nat} (hV : EOK e) (hw : w < 2) (hE0 : ER e σ0 w r) (hO0 : OWN D σ0 r) : ok (fun σ' => MF w r σ0 σ' ∧ OWN (D1 e D 128) σ' r ∧ MEMS e σ' w ∧ σ'.2 = σ0.2) (m_X3_findMembers σ0 w r) := by
  have key : ∀ n s σ, s ≤ 128 → 128 - s < n → (MF w r σ0 σ ∧ OWN (D1 e D s) σ r ∧ σ.2 = σ0.2 ∧ σ.1 20 w 0 = nI (cntB e.mem s) ∧ (∀ i, i < s → e.mem i = true → σ.1 21 w (cntB e.mem i) = nI i) ∧ ∀ i side, i < s → e.mem i = true → side < 2 → σ.1 22 w (2 * i + side) = e.T i side) →
      ok (fun σ' => MF w r σ0 σ' ∧ OWN (D1 e D 128) σ' r ∧ MEMS e σ' w ∧ σ'.2 = σ0.2) (m_X3_findMembers_7 w r n σ (nI s)) := by
    intro n
    induction n with
    | zero => intro s σ _ h; omega
    | succ n ih =>
      intro s σ hs hn hS
      obtain ⟨hF, hO, h2, h20, h21, h22⟩ := hS
      have hE := hE0.f hF
      rw [m_X3_findMembers_7]
      simp (disch := omega) only [le_128]
      by_cases e1 : s = 128
      · subst e1
        rw [if_pos (Nat.le_refl _)]
        exact ok_r ⟨hF, hO, ⟨h20, h21, h22⟩, h2⟩
      · rw [if_neg (by omega), hE.1, dv16 (by omega), q_has _ _ (by omega), bnd_s, ite_01, nI_1]
        have hcm : cntB e.mem s ≤ s := cntB_le _ _
        have hskip : e.mem s = false → ok (fun σ' => MF w r σ0 σ' ∧ OWN (D1 e D 128) σ' r ∧ MEMS e σ' w ∧ σ'.2 = σ0.2) (m_X3_findMembers_7 w r n σ (nI (s + 1))) := fun hm => by
          refine ih (s + 1) σ (by omega) (by omega) ⟨hF, hO.e (fun c i _ _ _ => ?_), h2, by rw [cntB, hm]; simpa using h20, fun i hi hmi => ?_, fun i side hi hmi hsd => ?_⟩
          · unfold D1
            by_cases e2 : i = s
            · subst e2; simp [hm]
            · by_cases e3 : i < s
              · simp [e3, show i < s + 1 by omega]
              · simp [e3, show ¬ i < s + 1 by omega]
          · by_cases e2 : i = s
            · subst e2; rw [hm] at hmi; cases hmi
            · exact h21 i (by omega) hmi
          · by_cases e2 : i = s
            · subst e2; rw [hm] at hmi; cases hmi
            · exact h22 i side (by omega) hmi hsd
        by_cases hR : bt e.ρ (s / 16) = true
        · rw [if_pos hR, q_decl _ _ (by omega), bnd_s, ite_10, hE.2.1 s (by omega) hR]
          by_cases hd : e.dec s = 0
          · rw [if_pos hd]
            exact hskip (by unfold EV.mem memB; simp [hd])
          · have hm : e.mem s = true := by unfold EV.mem memB inR; simp [hd, hR]
            rw [if_neg hd, h20, chk_n (by omega) (by omega), cl_nI (by omega)]
            simp only [st_s]
            rw [chk_n (by omega) (by omega), cl_nI (by omega), wI_ne _ _ _ _ _ _ (by decide), wI_ne _ _ _ _ _ _ (by decide), wI_ne _ _ _ _ _ _ (by decide), hE.2.1 s (by omega) hR, q_proc, bnd_s, chk_n (by omega) (by omega), zb_01, h20, nI_1]
            simp only [chk_e]
            generalize ha : wI (wI σ 21 w (cntB e.mem s) (nI s)) 20 w 0 (nI (cntB e.mem s + 1)) = σa
            have hFa : MF w r σ σa := by rw [← ha]; exact (MF.w _ _ _ (Or.inl ⟨by omega, by omega, rfl⟩)).tr (MF.w _ _ _ (Or.inl ⟨by omega, by omega, rfl⟩))
            have hOa : OWN (D1 e D s) σa r := by rw [← ha]; exact (hO.o 21 w _ _ (by omega)).o 20 w _ _ (by omega)
            generalize hb : wI σa 32 r s (if bt (e.dec s) 1 = true then 1 else 0) = σb
            have hFb : MF w r σ σb := by rw [← hb]; exact hFa.tr (MF.w _ _ _ (Or.inr ⟨by omega, by omega, rfl⟩))
            have hOb : OWN (D1 e D (s + 1)) σb r := by
              rw [← hb]
              refine (hOa.w 32 s _).e (fun c i _ _ _ => ?_)
              unfold D1 updD
              by_cases e2 : i = s
              · subst e2
                by_cases e3 : c = 32 <;> simp [e3, hm]
              · by_cases e3 : i < s
                · simp [e2, e3, show i < s + 1 by omega]
                · simp [e2, e3, show ¬ i < s + 1 by omega]
            have hEb : ER e σb w r := hE.f hFb
            show ok _ (bnd (m_X1_reference σb (e.dec s) (nI 0)) _)
            rw [q_ref _ _ (by omega), bnd_s, q_target hV hEb (by omega) hm (by omega), bnd_s, ix2, chk_n (by omega) (by omega), cl_nI (by omega)]
            generalize hc : wI σb 22 w (2 * s) (e.T s 0) = σc
            have hFc : MF w r σ σc := by rw [← hc]; exact hFb.tr (MF.w _ _ _ (Or.inl ⟨by omega, by omega, rfl⟩))
            have hOc : OWN (D1 e D (s + 1)) σc r := by rw [← hc]; exact hOb.o 22 w _ _ (by omega)
            show ok _ (bnd (m_X1_reference σc (e.dec s) (nI 1)) _)
            rw [q_ref _ _ (by omega), bnd_s, q_target hV (hE.f hFc) (by omega) hm (by omega), bnd_s]
            rw [show nI (2 * s) + (1 : Int32) = nI (2 * s + 1) from nI_1 _, chk_n (by omega) (by omega), cl_nI (by omega)]
            refine ih (s + 1) _ (by omega) (by omega) ⟨hF.tr (hFc.tr (MF.w _ _ _ (Or.inl ⟨by omega, by omega, rfl⟩))), hOc.o 22 w _ _ (by omega), ?_, ?_, ?_, ?_⟩
            · rw [← hc, ← hb, ← ha]; exact h2
            · rw [wI_ne _ _ _ _ _ _ (by decide), ← hc, wI_ne _ _ _ _ _ _ (by decide), ← hb, wI_ne _ _ _ _ _ _ (by decide), ← ha, wI_s, cntB, if_pos hm]
            · intro i hi hmi
              rw [wI_ne _ _ _ _ _ _ (by decide), ← hc, wI_ne _ _ _ _ _ _ (by decide), ← hb, wI_ne _ _ _ _ _ _ (by decide), ← ha, wI_ne _ _ _ _ _ _ (by decide), wI_1]
              by_cases e2 : i = s
              · subst e2; rw [if_pos ⟨rfl, rfl, rfl⟩]
              · have := cntB_lt e.mem (a := i) (b := s) (by omega) hmi
                rw [if_neg (fun q => by omega)]
                exact h21 i (by omega) hmi
            · intro i side hi hmi hsd
              rw [wI_1]
              by_cases e2 : 2 * i + side = 2 * s + 1
              · have e3 : i = s := by omega
                have e4 : side = 1 := by omega
                subst e3; subst e4
                rw [if_pos ⟨rfl, rfl, rfl⟩]
              · rw [if_neg (fun q => e2 q.2.2), ← hc, wI_1]
                by_cases e3 : 2 * i + side = 2 * s
                · have e5 : i = s := by omega
                  have e4 : side = 0 := by omega
                  subst e5; subst e4
                  rw [if_pos ⟨rfl, rfl, rfl⟩]
                · rw [if_neg (fun q => e3 q.2.2), ← hb, wI_ne _ _ _ _ _ _ (by decide), ← ha, wI_ne _ _ _ _ _ _ (by decide), wI_ne _ _ _ _ _ _ (by decide)]
                  exact h22 i side (by omega) hmi hsd
        · rw [if_neg hR]
          exact hskip (by unfold EV.mem memB inR; simp [hR])
  unfold m_X3_findMembers
  simp only [st_s]
  show ok _ (m_X3_findMembers_7 w r 1000 (wI σ0 20 w 0 0) (nI 0))
  refine key 1000 0 _ (by omega) (by omega) ⟨MF.w _ _ _ (Or.inl ⟨by omega, by omega, rfl⟩), (hO0.o 20 w _ _ (by omega)).e (fun c i _ _ _ => by unfold D1; simp), rfl, wI_s _ _ _ _ _, fun i hi => absurd hi (by omega), fun i _ hi => absurd hi (by omega)⟩
