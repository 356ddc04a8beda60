/-! THE CHECKSUM, whole; builtBy; the first module -/
theorem g68 {σ : Sg} {mc : Nat} (hB : BASE σ mc) : ∀ j k, k + j = cntB (fyB σ) 128 → ∀ d : Int64, ∃ D, ∀ f τ, j < f → MFR σ τ → BASE τ mc → OKD σ mc D (m_X10_digest_68 f τ d (nI (cntB (fyB σ) 128)) (nI k))
  | 0, k, hk, d => by
      obtain ⟨v, hv⟩ := d_asNew hB
      have hle := cntB_le (fyB σ) 128
      refine ⟨((((d * 31 + (nI (dueS σ)).toInt64) * 31 + (nI (rndS σ 1)).toInt64) * 31 + (nI (rndS σ 2)).toInt64) * 31) + (if v = 0 then (0 : Int32).toInt64 else (1 : Int32).toInt64), fun f τ hf h hBt => ?_⟩
      obtain ⟨f, rfl⟩ : ∃ z, f = z + 1 := ⟨f - 1, by omega⟩
      rw [m_X10_digest_68, if_pos (c := nI (cntB (fyB σ) 128) ≤ nI k) (by rw [le_n (by omega) (by omega)]; omega)]
      refine ok_b2 (s_would hBt) (fun σ1 r1 h1 => ?_)
      obtain ⟨a1, b1, c1⟩ := h1
      have c1' : r1 = nI (dueS τ) := c1
      refine ok_b2 (s_rounds (k := 1) b1 (by omega) (by omega)) (fun σ2 r2 h2 => ?_)
      obtain ⟨a2, b2, c2⟩ := h2
      have c2' : r2 = nI (rndS σ1 1) := c2
      refine ok_b2 (s_rounds (k := 2) b2 (by omega) (by omega)) (fun σ3 r3 h3 => ?_)
      obtain ⟨a3, b3, c3⟩ := h3
      have c3' : r3 = nI (rndS σ2 2) := c3
      have h1 := h.tr a1
      have h2 := h1.tr a2
      have h3 := h2.tr a3
      rw [h.due hB] at c1'
      rw [h1.rnd hB] at c2'
      rw [h2.rnd hB] at c3'
      rw [e_asNew h3 hB.2.2.2.2.1, hv, bnd_s, c1', c2', c3']
      by_cases hz : v = 0
      · rw [if_pos hz, if_pos hz]; exact ok_r ⟨h3, b3, rfl⟩
      · rw [if_neg hz, if_neg hz]; exact ok_r ⟨h3, b3, rfl⟩
  | j + 1, k, hk, d => by
      have hle := cntB_le (fyB σ) 128
      obtain ⟨d', h77⟩ := g77 hB (show k < cntB (fyB σ) 128 by omega) 3 0 (by omega) d
      obtain ⟨D, hD⟩ := g68 hB j (k + 1) (by omega) d'
      refine ⟨D, fun f τ hf h hBt => ?_⟩
      obtain ⟨f, rfl⟩ : ∃ z, f = z + 1 := ⟨f - 1, by omega⟩
      rw [m_X10_digest_68, if_neg (by rw [le_n (by omega) (by omega)]; omega)]
      exact h77 D _ (fun τ' h' hB' => hD f τ' (by omega) h' hB') 1000 τ (by omega) h hBt
theorem g33 {σ : Sg} {mc : Nat} (hB : BASE σ mc) : ∀ j m, m + j = mc → ∀ d : Int64, ∃ D, ∀ f τ, j < f → MFR σ τ → BASE τ mc → OKD σ mc D (m_X10_digest_33 f τ d (nI m))
  | 0, m, hm, d => by
      have hmc := hB.2.1.2
      have hle := cntB_le (fyB σ) 128
      obtain ⟨D, hD⟩ := g68 hB (cntB (fyB σ) 128) 0 (by omega) d
      refine ⟨D, fun f τ hf h hBt => ?_⟩
      obtain ⟨f, rfl⟩ : ∃ z, f = z + 1 := ⟨f - 1, by omega⟩
      rw [m_X10_digest_33, hBt.2.1.1, if_pos (by rw [le_n (by omega) (by omega)]; omega), e_faults h hB.2.2.2.2.1, q_faults hB.2.2.2.2.1.1, bnd_s]
      exact hD 1000 τ (by omega) h hBt
  | j + 1, m, hm, d => by
      have hmc := hB.2.1.2
      obtain ⟨v, hv⟩ := g_mod hB (show m < mc by omega) d
      obtain ⟨D, hD⟩ := g33 hB j (m + 1) (by omega) v
      refine ⟨D, fun f τ hf h hBt => ?_⟩
      obtain ⟨f, rfl⟩ : ∃ z, f = z + 1 := ⟨f - 1, by omega⟩
      rw [m_X10_digest_33, hBt.2.1.1, if_neg (by rw [le_n (by omega) (by omega)]; omega)]
      refine ok_b2 (hv τ h hBt) (fun σ1 r hr => ?_)
      obtain ⟨g1, g2, g3⟩ := hr
      have g3' : r = v := g3
      rw [g3', nI_1]
      exact hD f σ1 (by omega) g1 g2
theorem g6 {σ : Sg} {mc : Nat} (hB : BASE σ mc) : ∀ j k, k + j = 10 → ∀ d : Int64, ∃ D, ∀ f τ, j < f → MFR σ τ → BASE τ mc → OKD σ mc D (m_X10_digest_6 f τ d (nI k))
  | 0, k, hk, d => by
      have hmc := hB.2.1.2
      obtain ⟨D, hD⟩ := g33 hB mc 0 (by omega) d
      refine ⟨D, fun f τ hf h hBt => ?_⟩
      obtain ⟨f, rfl⟩ : ∃ z, f = z + 1 := ⟨f - 1, by omega⟩
      rw [m_X10_digest_6, if_pos (by rw [show k = 10 by omega]; decide)]
      exact hD 1000 τ (by omega) h hBt
  | j + 1, k, hk, d => by
      obtain ⟨v, hv⟩ := d_many hB (show k ≤ 9 by omega)
      obtain ⟨D, hD⟩ := g6 hB j (k + 1) (by omega) (d * 31 + v.toInt64)
      refine ⟨D, fun f τ hf h hBt => ?_⟩
      obtain ⟨f, rfl⟩ : ∃ z, f = z + 1 := ⟨f - 1, by omega⟩
      rw [m_X10_digest_6, if_neg (by rw [show (9 : Int32) = nI 9 from rfl, lt_n (by omega) (by omega)]; omega), e_many h hB.2.2.2.2.1, hv, bnd_s, nI_1]
      exact hD f τ (by omega) h hBt
/-- the checksum is one, however often trials and runs went between -/
theorem s_digest {σ : Sg} {mc : Nat} (hB : BASE σ mc) : ∃ D, ∀ τ, MFR σ τ → BASE τ mc → OKD σ mc D (m_X10_digest τ) := by
  obtain ⟨D, hD⟩ := g6 hB 10 0 (by omega) 58138
  exact ⟨D, fun τ h hBt => hD 1000 τ (by omega) h hBt⟩
-- a declaration with another number
theorem refN_c {x y : Int32} (h : ∀ i, 11 ≤ i → i < 32 → bt x i = bt y i) (side : Nat) : refN x side = refN y side := by
  have e : ∀ n, 11 ≤ n → n < 32 → x >>> (nI n &&& 31) = y >>> (nI n &&& 31) := fun n h1 h2 => b_ext (fun i hi => by
    rw [b_sshr n h2 x hi, b_sshr n h2 y hi]
    split
    · exact h _ (by omega) (by omega)
    · exact h 31 (by omega) (by omega))
  have e1 : x >>> ((11 : Int32) &&& 31) = y >>> ((11 : Int32) &&& 31) := e 11 (by omega) (by omega)
  have e2 : x >>> ((16 : Int32) &&& 31) = y >>> ((16 : Int32) &&& 31) := e 16 (by omega) (by omega)
  unfold refN
  rw [e1, e2]
theorem bt_m2041 : ∀ i, i < 32 → bt (-2041) i = decide (i < 3 ∨ 11 ≤ i) := by decide +kernel
theorem bt_100 : ∀ i, i < 32 → bt (((1 : Int32) + 99) <<< ((3 : Int32) &&& 31)) i = decide (i = 5 ∨ i = 8 ∨ i = 9) := by decide +kernel
def wn1 (x : Int32) : Int32 := (x &&& (-2041)) ||| (((1 : Int32) + 99) <<< ((3 : Int32) &&& 31))
theorem wn1_ref (x : Int32) (side : Nat) : refN (wn1 x) side = refN x side := refN_c (fun i h1 h2 => by
  unfold wn1
  rw [b_or, b_and, bt_m2041 i h2, bt_100 i h2]
  simp [h1]
  omega) side
theorem wn1_ne (x : Int32) : ¬ wn1 x = 0 := by
  intro h
  have := bt_zero.mp h 5 (by omega)
  unfold wn1 at this
  rw [b_or, bt_100 5 (by omega)] at this
  simp at this
theorem s_builtBy {σ : Sg} {mc : Nat} (hB : BASE σ mc) (h0 : 0 < mc) : ok (fun q => MFR σ q.1 ∧ BASE q.1 mc ∧ ¬ q.2 < 0) (m_X10_builtBy σ 0 0 1) := by
  obtain ⟨hR, hT, _⟩ := hB.rg
  have hmc := hB.2.1.2
  unfold m_X10_builtBy
  have e0 : m_X10_checkModule σ 0 = some () := q_chkM (m := 0) hB.2.1 h0
  rw [e0, bnd_s, q_within σ (by decide) (by decide), bnd_s, q_within σ (by decide) (by decide), bnd_s, show ((0 : Int32) * 16) + 0 = nI 0 from rfl, q_decl σ 0 (by omega), bnd_s]
  by_cases hd : σ.1 26 0 0 = 0
  · rw [if_pos hd, if_pos rfl]
    exact ok_r ⟨MFR.rf σ, hB, (by decide : ¬ (0 : Int32) < 0)⟩
  · rw [if_neg hd, if_neg (by decide)]
    refine ok_b (s_start hB.2.2.2.2.1.1) (fun σ1 h1 => ?_)
    have hB1 := h1.base hB
    refine ok_b2 (s_all (w := 1) (by omega) hB1.1 (h1.rings hR) hB1.2.2.2.1 (h1.iw hB)) (fun σ2 v hq => ?_)
    obtain ⟨q1, _⟩ := hq
    obtain ⟨m1, m2⟩ := RUN.base hB h1.mfr q1
    have ew : ∀ x, m_X1_withNumber σ2 x 1 = some (wn1 x) := fun _ => rfl
    rw [chk_n (by omega) (by omega), ew, bnd_s, chk_n (by omega) (by omega), st_s, cl_nI (by omega)]
    generalize hσ3 : wI σ2 26 1 0 (wn1 (σ2.1 26 0 0)) = σ3
    have m3 : MFR σ2 σ3 := by
      rw [← hσ3]
      exact ⟨fun c o a1 a2 a3 a4 => wI_co _ _ _ _ _ (by omega), fun _ _ _ => rfl, fun _ _ _ => rfl⟩
    have o3 : ∀ c o, ¬ (c = 26 ∧ o = 1) → σ3.1 c o = σ2.1 c o := fun c o hc => by rw [← hσ3]; exact wI_co _ _ _ _ _ hc
    have p3 : σ3.2 = σ2.2 := by rw [← hσ3]; rfl
    have hS3 : SF σ3 := fun r hr i hi => by
      obtain ⟨x1, x2⟩ := m2.2.2.2.1 r hr i hi
      have e : ∀ c, 31 ≤ c → c ≤ 36 → own σ2 r c i = own σ3 r c i := fun c h1 h2 => by unfold own; rw [o3 c r (by omega)]
      rw [p3]
      exact ⟨x1.trans (ansOf_c e), SFA_c e x2⟩
    have hB3 : BASE σ3 mc := m2.mfr m3 hS3 (by rw [o3 19 1 (by omega)]; exact m2.2.2.2.2.2.2.1)
    have hI2 := q1.2.1
    have hI3 : IW σ3 1 := by
      obtain ⟨i1, i2, ⟨c, i3, i4⟩, i5, i6, i7⟩ := hI2
      have hc : c ≤ 0 := i3.2.1
      have hc0 : c = 0 := by omega
      subst hc0
      refine ⟨fun m hm => by rw [p3]; exact i1 m hm, fun m hm => by unfold LQ; rw [p3]; exact i2 m hm, ⟨0, ⟨by rw [o3 19 1 (by omega)]; exact i3.1, Nat.zero_le _, fun k hk => by omega⟩, fun k hk => by omega⟩, fun k hk => by rw [p3]; exact i5 k hk, fun m hm => by unfold cnt; rw [o3 28 1 (by omega)]; exact i6 m hm, fun s hs => ?_⟩
      rw [o3 26 0 (by omega)]
      by_cases es : s = 0
      · subst es
        have e3 : σ3.1 26 1 0 = wn1 (σ2.1 26 0 0) := by rw [← hσ3]; exact wI_s _ _ _ _ _
        have e2 : σ2.1 26 0 0 = σ.1 26 0 0 := by rw [m1.t0 (by omega)]
        rw [e3]
        refine ⟨⟨fun z => absurd z (wn1_ne _), fun z => ?_⟩, fun side _ => wn1_ref _ _⟩
        rw [e2] at z; exact absurd z hd
      · have e3 : σ3.1 26 1 s = σ2.1 26 1 s := by rw [← hσ3, wI_1, if_neg (fun z => es z.2.2)]
        rw [e3]; exact i7 s hs
    refine ok_b2 (s_all (w := 1) (by omega) hB3.1 hB3.rg.1 hB3.2.2.2.1 hI3) (fun σ4 v4 hq4 => ?_)
    obtain ⟨r1, r2⟩ := hq4
    obtain ⟨n1, n2⟩ := RUN.base hB (m1.tr m3) r1
    refine ok_r ⟨n1, n2, ?_⟩
    have r2' : v4 = _ := r2
    show ¬ v4 < 0
    have hle := pa_le (C := CXW σ3 1) (q := fun p => σ3.1 17 0 p) (cnR σ3) 0 (VW σ3 1)
    have hc8 := hB3.rg.2.2.1
    rw [r2', ltz (by omega)]
    exact fun z => z
