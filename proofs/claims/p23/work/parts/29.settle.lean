/-! NAMES, the whole -/
def WR (σ : Sg) (s sl : Nat) : Prop := ¬ σ.1 26 0 s = 0 ∧ ∃ side, side < 2 ∧ ¬ refN (σ.1 26 0 s) side = 0 ∧ W1 σ (s / 16) (refN (σ.1 26 0 s) side - 1) sl
theorem s_wantRefs {σ0 σ : Sg} {P : Nat → Nat → Prop} {s : Nat} (hT : TX σ0 0) (hF : FR [7, 8] σ0 σ) (hs : s < 128) (hsl : ∀ nm, nm < 16 → SL1 (σ0.1 9 0 (s / 16 * 16 + nm))) (hW : WB σ P) :
    ok (fun σ1 => FR [7, 8] σ0 σ1 ∧ (∀ i, σ1.1 7 0 i = σ.1 7 0 i) ∧ WB σ1 (fun m' sl => P m' sl ∨ (m' = s / 16 ∧ WR σ0 s sl))) (m_X4_wantReferences σ (nI s)) := by
  have e26 : σ.1 26 0 s = σ0.1 26 0 s := by rw [hF.1 26 (by decide)]
  unfold m_X4_wantReferences
  rw [q_decl σ 0 hs, bnd_s, ite_10, e26]
  by_cases hd : σ0.1 26 0 s = 0
  · rw [if_pos hd]
    exact ok_r ⟨hF, fun _ => rfl, hW.c (fun m' sl _ _ => ⟨Or.inl, fun q => q.elim id (fun q => absurd hd q.2.1)⟩)⟩
  · rw [if_neg hd]
    have h16 := hT.2.2 s hs hd
    have key : ∀ n sd σ', sd ≤ 2 → 2 - sd < n → (FR [7, 8] σ0 σ' ∧ (∀ i, σ'.1 7 0 i = σ.1 7 0 i) ∧ WB σ' (fun m' sl => P m' sl ∨ (m' = s / 16 ∧ ∃ side, side < sd ∧ ¬ refN (σ0.1 26 0 s) side = 0 ∧ W1 σ0 (s / 16) (refN (σ0.1 26 0 s) side - 1) sl))) →
        ok (fun σ1 => FR [7, 8] σ0 σ1 ∧ (∀ i, σ1.1 7 0 i = σ.1 7 0 i) ∧ WB σ1 (fun m' sl => P m' sl ∨ (m' = s / 16 ∧ WR σ0 s sl))) (m_X4_wantReferences_13 (nI s) n σ' (nI sd)) := by
      intro n
      induction n with
      | zero => intro sd σ' _ h; omega
      | succ n ih =>
        intro sd σ' hsd hn hS
        obtain ⟨hF', h7, hB⟩ := hS
        rw [m_X4_wantReferences_13]
        simp (disch := omega) only [le_2]
        by_cases e : sd = 2
        · subst e
          rw [if_pos (by omega)]
          refine ok_r ⟨hF', h7, hB.c (fun m' sl _ _ => ?_)⟩
          unfold WR
          exact or_congr Iff.rfl (and_congr Iff.rfl ⟨fun q => ⟨hd, q⟩, fun q => q.2⟩)
        · have e26' : σ'.1 26 0 s = σ0.1 26 0 s := by rw [hF'.1 26 (by decide)]
          rw [if_neg (by omega), chk_n (by omega) (by omega), cl_nI (by omega), e26', q_ref _ _ (by omega), bnd_s, dv16 (by omega)]
          have hrl : refN (σ0.1 26 0 s) sd ≤ 16 := by
            have : sd = 0 ∨ sd = 1 := by omega
            rcases this with rfl | rfl
            · exact h16.1
            · exact h16.2
          by_cases h0 : refN (σ0.1 26 0 s) sd = 0
          · rw [if_pos h0]
            unfold m_X4_want
            rw [if_pos rfl, bnd_s, nI_1]
            refine ih (sd + 1) σ' (by omega) (by omega) ⟨hF', h7, hB.c (fun m' sl _ _ => or_congr Iff.rfl (and_congr Iff.rfl ⟨?_, ?_⟩))⟩
            · rintro ⟨side, q1, q2⟩
              exact ⟨side, by omega, q2⟩
            · rintro ⟨side, q1, q2, q3⟩
              by_cases e2 : side = sd
              · rw [e2] at q2; exact absurd h0 q2
              · exact ⟨side, by omega, q2, q3⟩
          · rw [if_neg h0]
            refine ok_b (s_want hF' (by omega) (by omega) (hsl _ (by omega)) hB) (fun σ1 h1 => ?_)
            rw [nI_1]
            obtain ⟨g1, g2, g3⟩ := h1
            refine ih (sd + 1) σ1 (by omega) (by omega) ⟨g1, fun i => (g2 i).trans (h7 i), g3.c (fun m' sl _ _ => ?_)⟩
            constructor
            · rintro ((q | ⟨q1, side, q2, q3⟩) | ⟨q1, q2⟩)
              · exact Or.inl q
              · exact Or.inr ⟨q1, side, by omega, q3⟩
              · exact Or.inr ⟨q1, sd, by omega, h0, q2⟩
            · rintro (q | ⟨q1, side, q2, q3, q4⟩)
              · exact Or.inl (Or.inl q)
              · by_cases e2 : side = sd
                · subst e2; exact Or.inr ⟨q1, q4⟩
                · exact Or.inl (Or.inr ⟨q1, side, by omega, q3, q4⟩)
    exact key 1000 0 σ (by omega) (by omega) ⟨hF, fun _ => rfl, hW.c (fun m' sl _ _ => ⟨Or.inl, fun q => q.elim id (fun ⟨_, side, q2, _⟩ => absurd q2 (by omega))⟩)⟩
/-- the names of a state are those of its text -/
def NMS (σ : Sg) (mc : Nat) : Prop :=
  SIR σ mc ∧ (∀ s, s < 128 → OV σ mc s (σ.1 6 0 s) ∧ (mc * 16 ≤ s → σ.1 6 0 s = -1)) ∧
  (∀ s, s < mc * 16 → σ.1 7 0 s = if σ.1 26 0 s = 0 then brV (σ.1 6 0) (σ.1 9 0 s) (fun f => bt (σ.1 11 0 (s / 16)) f) (s % 16) else nI s) ∧
  WB σ (fun m sl => ∃ s, s < mc * 16 ∧ s / 16 = m ∧ WR σ s sl)
/-- the components that it speaks of -/
def nmC (c : Nat) : Bool := c == 6 || c == 7 || c == 8 || c == 9 || c == 10 || c == 11 || c == 12 || c == 26 || c == 27 || c == 28
theorem NMS.c {σ σ' : Sg} {mc : Nat} (h : ∀ c, nmC c = true → σ'.1 c 0 = σ.1 c 0) (hN : NMS σ mc) : NMS σ' mc := by
  have h6 := h 6 rfl
  have h7 := h 7 rfl
  have h8 := h 8 rfl
  have h9 := h 9 rfl
  have h10 := h 10 rfl
  have h11 := h 11 rfl
  have h12 := h 12 rfl
  have h26 := h 26 rfl
  have h27 := h 27 rfl
  have h28 := h 28 rfl
  unfold NMS SIR OV RC LO WB WR W1 cnt imp at *
  simp only [h6, h7, h8, h9, h10, h11, h12, h26, h27, h28]
  exact hN
theorem SIR.sl1 {σ : Sg} {mc s : Nat} (hT : TX σ 0) (hmc : mc ≤ 8) (hR : SIR σ mc) (hs : s < mc * 16) (c : Nat) (hc : c = 9 ∨ c = 10) : SL1 (σ.1 c 0 s) := by
  have hh : ∀ p, srcG p (imp σ 0 (s / 16)) (cnt σ 0 (s / 16)) (cnt σ 0 (s / 16)) = σ.1 c 0 s → SL1 (σ.1 c 0 s) := by
    intro p e
    rw [← e]
    rcases srcG_of p (imp σ 0 (s / 16)) (cnt σ 0 (s / 16)) (cnt σ 0 (s / 16)) (Nat.le_refl _) with h | ⟨k, hk, _, h⟩
    · exact Or.inl h
    · exact Or.inr ⟨_, srcOf_lt (hT.2.1 _ k (by omega) hk), h⟩
  have e : s / 16 * 16 + s % 16 = s := by omega
  rcases hc with rfl | rfl
  · exact hh _ (by rw [← hR.1 (s / 16) (s % 16) (by omega) (by omega), e])
  · exact hh _ (by rw [← hR.2.1 (s / 16) (s % 16) (by omega) (by omega), e])
theorem s_names {σ : Sg} {mc : Nat} (hT : TX σ 0) (hM : MC σ mc) : ok (fun σ1 => FR [6, 7, 8, 9, 10, 11, 12] σ σ1 ∧ NMS σ1 mc) (m_X4_settle σ) := by
  unfold m_X4_settle
  refine ok_b (s_imports hT hM) (fun σa ha => ?_)
  have hTa : TX σa 0 := by
    unfold TX cnt imp at *
    rw [ha.1.1 26 (by decide), ha.1.1 27 (by decide), ha.1.1 28 (by decide)]; exact hT
  have hMa : MC σa mc := by unfold MC at *; rw [ha.1.1 29 (by decide)]; exact hM
  have hRa : SIR σa mc := by
    have e1 : ∀ m, imp σa 0 m = imp σ 0 m := fun m => by funext k; unfold imp; rw [ha.1.1 27 (by decide)]
    have e2 : ∀ m, cnt σa 0 m = cnt σ 0 m := fun m => by unfold cnt; rw [ha.1.1 28 (by decide)]
    unfold SIR
    simp only [e1, e2]
    exact ha.2
  refine ok_b (s_outside hTa hMa hRa) (fun σb hb => ?_)
  rw [q_fill _ _ _ _ (by decide), bnd_s]
  generalize hc0 : rowI σb 8 0 (fun j => if j < 64 then 0 else σb.1 8 0 j) = σc
  have hcF : FR [8] σb σc := by rw [← hc0]; exact FR.r _ 0 _ (by decide)
  have h8 : ∀ j, j < 64 → σc.1 8 0 j = 0 := fun j hj => by rw [← hc0, rowI_1, if_pos ⟨rfl, rfl⟩, if_pos hj]
  have hFc : FR [6, 8] σa σc := (hb.1.up (by decide)).tr (hcF.up (by decide))
  have hTc : TX σc 0 := by
    unfold TX cnt imp at *
    rw [hFc.1 26 (by decide), hFc.1 27 (by decide), hFc.1 28 (by decide)]; exact hTa
  have hRc : SIR σc mc := by
    unfold SIR cnt imp at *
    rw [hFc.1 27 (by decide), hFc.1 28 (by decide), hFc.1 9 (by decide), hFc.1 10 (by decide), hFc.1 11 (by decide), hFc.1 12 (by decide)]; exact hRa
  have hOc : ∀ s, s < 128 → OV σc mc s (σc.1 6 0 s) ∧ (mc * 16 ≤ s → σc.1 6 0 s = -1) := by
    have h := hb.2
    unfold OV RC LO cnt imp at *
    rw [hFc.1 27 (by decide), hFc.1 28 (by decide), hcF.1 6 (by decide)]; exact h
  have hMc : σc.1 29 0 0 = nI mc := by rw [hFc.1 29 (by decide)]; exact hMa.1
  have hmc := hM.2
  have hsl9 : ∀ s nm, s < mc * 16 → nm < 16 → SL1 (σc.1 9 0 (s / 16 * 16 + nm)) := fun s nm h1 h2 => hRc.sl1 hTc hmc (by omega) 9 (Or.inl rfl)
  have key : ∀ n s σ', s ≤ mc * 16 → mc * 16 - s < n → (FR [7, 8] σc σ' ∧ (∀ i, i < s → σ'.1 7 0 i = if σc.1 26 0 i = 0 then brV (σc.1 6 0) (σc.1 9 0 i) (fun f => bt (σc.1 11 0 (i / 16)) f) (i % 16) else nI i) ∧ WB σ' (fun m sl => ∃ i, i < s ∧ i / 16 = m ∧ WR σc i sl)) →
      ok (fun σ1 => FR [7, 8] σc σ1 ∧ (∀ i, i < mc * 16 → σ1.1 7 0 i = if σc.1 26 0 i = 0 then brV (σc.1 6 0) (σc.1 9 0 i) (fun f => bt (σc.1 11 0 (i / 16)) f) (i % 16) else nI i) ∧ WB σ1 (fun m sl => ∃ i, i < mc * 16 ∧ i / 16 = m ∧ WR σc i sl)) (m_X4_settle_18 n σ' (nI s)) := by
    intro n
    induction n with
    | zero => intro s σ' _ h; omega
    | succ n ih =>
      intro s σ' hs hn hS
      obtain ⟨hF, h7, hB⟩ := hS
      have e6 : σ'.1 6 = σc.1 6 := hF.1 6 (by decide)
      have e9 : σ'.1 9 = σc.1 9 := hF.1 9 (by decide)
      have e11 : σ'.1 11 = σc.1 11 := hF.1 11 (by decide)
      have e26 : σ'.1 26 = σc.1 26 := hF.1 26 (by decide)
      rw [m_X4_settle_18, show σ'.1 29 0 0 = nI mc from by rw [hF.1 29 (by decide)]; exact hMc, mu16]
      simp (disch := omega) only [le_n]
      by_cases e : s = mc * 16
      · subst e
        rw [if_pos (Nat.le_refl _)]
        exact ok_r ⟨hF, h7, hB⟩
      · rw [if_neg (by omega), q_decl σ' 0 (by omega), bnd_s, ite_10, e26]
        -- one step, with the value v for 'within'
        have step : ∀ v, (v = if σc.1 26 0 s = 0 then brV (σc.1 6 0) (σc.1 9 0 s) (fun f => bt (σc.1 11 0 (s / 16)) f) (s % 16) else nI s) →
            ok (fun σ1 => FR [7, 8] σc σ1 ∧ (∀ i, i < mc * 16 → σ1.1 7 0 i = if σc.1 26 0 i = 0 then brV (σc.1 6 0) (σc.1 9 0 i) (fun f => bt (σc.1 11 0 (i / 16)) f) (i % 16) else nI i) ∧ WB σ1 (fun m sl => ∃ i, i < mc * 16 ∧ i / 16 = m ∧ WR σc i sl)) (bnd (m_X4_wantReferences (wI σ' 7 0 s v) (nI s)) (fun σ9 => m_X4_settle_18 n σ9 (nI s + 1))) := by
          intro v hv
          refine ok_b (s_wantRefs (P := fun m sl => ∃ i, i < s ∧ i / 16 = m ∧ WR σc i sl) hTc (hF.tr (FR.w _ 0 s v (by decide))) (by omega) (fun nm hnm => hsl9 s nm (by omega) hnm) ?_) (fun σ1 h1 => ?_)
          · intro m sl hm hsl
            rw [wI_ne _ _ _ _ _ _ (by decide)]
            exact hB m sl hm hsl
          · obtain ⟨g1, g2, g3⟩ := h1
            rw [nI_1]
            refine ih (s + 1) σ1 (by omega) (by omega) ⟨g1, fun i hi => ?_, g3.c (fun m sl _ _ => ?_)⟩
            · rw [g2 i, wI_1]
              by_cases e2 : i = s
              · subst e2; rw [if_pos ⟨rfl, rfl, rfl⟩, hv]
              · rw [if_neg (fun q => e2 q.2.2), h7 i (by omega)]
            · constructor
              · rintro (⟨i, q1, q2⟩ | ⟨q1, q2⟩)
                · exact ⟨i, by omega, q2⟩
                · exact ⟨s, by omega, q1.symm, q2⟩
              · rintro ⟨i, q1, q2, q3⟩
                by_cases e2 : i = s
                · subst e2; exact Or.inr ⟨q2.symm, q3⟩
                · exact Or.inl ⟨i, by omega, q2, q3⟩
        by_cases hd : σc.1 26 0 s = 0
        · rw [if_pos hd, chk_n (by omega) (by omega), dv16 (by omega), chk_n (by omega) (by omega), cl_nI (by omega), cl_nI (by omega), e9, e11, q_brought σ' (by omega) (hRc.sl1 hTc hmc (by omega) 9 (Or.inl rfl)), bnd_s, chk_n (by omega) (by omega), e6]
          unfold st
          exact step _ (by rw [if_pos hd])
        · rw [if_neg hd, chk_n (by omega) (by omega), cl_nI (by omega)]
          unfold st
          exact step _ (by rw [if_neg hd])
  refine ok_w (key 1000 0 σc (by omega) (by omega) ⟨FR.rf _ _, fun i hi => absurd hi (by omega), fun m sl hm hsl => ?_⟩) (fun σ1 h1 => ?_)
  · rw [h8 _ (by omega), b_0]
    exact ⟨fun q => (by cases q), fun ⟨i, q, _⟩ => absurd q (by omega)⟩
  · obtain ⟨g1, g2, g3⟩ := h1
    refine ⟨(((ha.1.up (by decide)).tr (hb.1.up (by decide))).tr (hcF.up (by decide))).tr (g1.up (by decide)), ?_, ?_, ?_, ?_⟩
    · unfold SIR cnt imp at *
      rw [g1.1 27 (by decide), g1.1 28 (by decide), g1.1 9 (by decide), g1.1 10 (by decide), g1.1 11 (by decide), g1.1 12 (by decide)]; exact hRc
    · unfold OV RC LO cnt imp at *
      rw [g1.1 27 (by decide), g1.1 28 (by decide), g1.1 6 (by decide)]; exact hOc
    · rw [g1.1 26 (by decide), g1.1 6 (by decide), g1.1 9 (by decide), g1.1 11 (by decide)]; exact g2
    · unfold WR W1 at *
      rw [g1.1 26 (by decide), g1.1 9 (by decide), g1.1 11 (by decide)]; exact g3
