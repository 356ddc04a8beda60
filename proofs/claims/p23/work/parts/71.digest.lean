/-! ASKING: answers come; the checksum -/
section DFN
variable {σ : Sg} {mc m n w : Nat}
theorem d_ne (hB : BASE σ mc) (hm : m < mc) : NE8 (σ.1 15 0 m) := ⟨m, by have := hB.2.1.2; omega, by
  rw [hB.2.2.1.2.1 m m hm (by have := hB.2.1.2; omega)]; unfold rgB; simp⟩
theorem d_reason (hB : BASE σ mc) (hm : m < mc) : ∃ v, m_X9_reasonOf σ 0 (σ.1 15 0 m) = some v := by
  obtain ⟨v, h, _⟩ := q_reason hB.2.2.2.2.1.1 hB.1.osl hB.2.2.2.2.1.2.2.2.2.1 (d_ne hB hm)
  exact ⟨v, h⟩
theorem d_small (σ : Sg) (x : Int32) : ∃ v, m_X6_smallestOf σ x = some v := by
  rcases q_small σ x with ⟨h, _⟩ | ⟨j, _, h, _⟩
  · exact ⟨_, h⟩
  · exact ⟨_, h⟩
theorem d_part (σ : Sg) (x y : Int32) : ∃ v, m_X10_partOf σ x y = some v := by
  unfold m_X10_partOf
  split
  · split
    · exact ⟨_, rfl⟩
    · exact ⟨_, rfl⟩
  · exact ⟨_, rfl⟩
theorem d_trait (σ : Sg) (x : Int64) (y : Int32) : ∃ v, m_X0_trait σ x y = some v := by
  unfold m_X0_trait
  split
  · exact ⟨_, rfl⟩
  · split
    · exact ⟨_, rfl⟩
    · split
      · exact ⟨_, rfl⟩
      · exact ⟨_, rfl⟩
theorem d_want (σ : Sg) (hm : m < 8) : ∃ v, m_X4_wantedBy σ (nI m) = some v := by
  have key : ∀ n k y, k ≤ 8 → 8 - k < n → ∃ v, m_X4_wantedBy_4 σ (nI m) n y (nI k) = some v := by
    intro n
    induction n with
    | zero => intro k y _ h; omega
    | succ n ih =>
      intro k y hk hn
      rw [m_X4_wantedBy_4]
      by_cases h : k = 8
      · subst h
        rw [if_pos (by decide)]
        exact ⟨_, rfl⟩
      · have e : ∀ v, ∃ b, m_J6_bitCount_0f7a4 σ v = some b := fun v => ⟨_, rfl⟩
        obtain ⟨b, hb⟩ := e (σ.1 8 0 (nI (m * 8 + k)).toNatClampNeg)
        rw [if_neg (by rw [le_8 (by omega)]; omega), ix8, chk_n (by omega) (by omega), hb, bnd_s, nI_1]
        exact ih (k + 1) _ (by omega) (by omega)
  exact key 1000 0 0 (by omega) (by omega)
theorem d_ofModule (hB : BASE σ mc) (hm : m < mc) (hw : w ≤ 8) : ∃ v, m_X10_ofModule σ (nI m) (nI w) = some v := by
  have hmc := hB.2.1.2
  obtain ⟨v2, h2⟩ := d_small σ (σ.1 15 0 m)
  obtain ⟨v5, h5⟩ := d_want σ (show m < 8 by omega)
  obtain ⟨v8, h8⟩ := d_reason hB hm
  have pre : ∀ w, ¬ (w : Int32) < 0 → w ≤ 8 → m_X10_ofModule σ (nI m) w = (if w.toInt = 0 then bnd (m_X8_declarationsOf σ 0 (nI m)) (fun r109 => some r109) else if w.toInt = 1 then some (σ.1 28 0 m) else if w.toInt = 2 then some v2 else if w.toInt = 3 then some (σ.1 16 0 m) else if w.toInt = 4 then some (σ.1 13 0 m) else if w.toInt = 5 then some v5 else if w.toInt = 6 then some (σ.1 1 0 m) else if w.toInt = 7 then some (σ.1 2 0 m) else if v8 = 0 then some 0 else some 1) := fun w h1 h2' => by
    unfold m_X10_ofModule
    rw [q_chkM hB.2.1 hm, bnd_s, q_within σ h1 h2', bnd_s, chk_n (by omega) (by omega), chk_n (by omega) (by omega), chk_n (by omega) (by omega), chk_n (by omega) (by omega), chk_n (by omega) (by omega), chk_n (by omega) (by omega), cl_nI (by omega), h2, bnd_s, h5, bnd_s, h8, bnd_s]
  rw [pre _ (by rw [ltz (by omega)]; exact fun z => z) (by rw [show (8 : Int32) = nI 8 from rfl, le_n (by omega) (by omega)]; exact hw), q_declOf σ 0 (by omega), bnd_s]
  repeat' split
  all_goals exact ⟨_, rfl⟩
theorem d_within (hB : BASE σ mc) (hm : m < mc) (hn : n < 16) (hw : w ≤ 1) : ∃ v, m_X10_within σ (nI m) (nI n) (nI w) = some v := by
  have hmc := hB.2.1.2
  unfold m_X10_within
  rw [q_chkM hB.2.1 hm, bnd_s, q_w15 σ (by omega), bnd_s, q_w1 σ hw, bnd_s, ix16, chk_n (by omega) (by omega)]
  obtain ⟨v, hv⟩ := d_part σ (σ.1 7 0 (nI (m * 16 + n)).toNatClampNeg) (nI w)
  rw [hv, bnd_s]
  exact ⟨_, rfl⟩
theorem d_outside (hB : BASE σ mc) (hm : m < mc) (hn : n < 16) (hw : w ≤ 5) : ∃ v, m_X10_outside σ (nI m) (nI n) (nI w) = some v := by
  have hmc := hB.2.1.2
  have hs : m * 16 + n < 128 := by omega
  unfold m_X10_outside
  rw [q_chkM hB.2.1 hm, bnd_s, q_w15 σ (by omega), bnd_s, q_w5 σ hw, bnd_s, ix16, chk_n hs (by omega), cl_nI (by omega)]
  obtain ⟨v, hv⟩ := d_part σ (σ.1 6 0 (m * 16 + n)) (nI w)
  rw [hv, bnd_s]
  by_cases h1 : (1 : Int32) < nI w
  · rw [if_pos h1]
    rcases hB.1.osl _ hs with e | e | ⟨j, hj, e⟩
    · rw [e, if_neg (by decide)]; exact ⟨_, rfl⟩
    · rw [e, if_neg (by decide)]; exact ⟨_, rfl⟩
    · obtain ⟨q1, q2⟩ := q_state hB.2.2.2.2.1.1 hj
      rw [e, if_pos (by rw [ge_0 (by omega)]; trivial), q1, bnd_s, chk_e (by rw [decide_eq_true_eq]; exact q2), chk_n hj (by omega), cl_nI (by omega)]
      obtain ⟨v2, hv2⟩ := d_trait σ (σ.2.1 1 (LQ σ 0 (j / 16)) j) (nI w)
      rw [hv2, bnd_s]
      exact ⟨_, rfl⟩
  · rw [if_neg h1]; exact ⟨_, rfl⟩
theorem d_calls (σ : Sg) (r : Nat) {s : Nat} (hs : s < 128) : ∃ v, m_X5_callCount σ r (nI s) = some v := by
  unfold m_X5_callCount m_X5_callCount_15
  rw [chk_n hs (by omega), chk_n hs (by omega), chk_n hs (by omega)]
  split
  · split
    · exact ⟨_, rfl⟩
    · exact ⟨_, rfl⟩
  · split
    · exact ⟨_, rfl⟩
    · exact ⟨_, rfl⟩
theorem d_built (hB : BASE σ mc) (hm : m < mc) (hn : n < 16) (hw : w ≤ 5) : ∃ v, m_X10_built σ (nI m) (nI n) (nI w) = some v := by
  have hmc := hB.2.1.2
  have hs : m * 16 + n < 128 := by omega
  obtain ⟨q1, q2⟩ := q_state hB.2.2.2.2.1.1 hs
  unfold m_X10_built
  rw [q_chkM hB.2.1 hm, bnd_s, q_w15 σ (by omega), bnd_s, q_w5 σ hw, bnd_s, ix16, q1, bnd_s, chk_e (by rw [decide_eq_true_eq]; exact q2), q_decl σ _ hs, bnd_s, chk_n hs (by omega), chk_n hs (by omega), chk_n hs (by omega), chk_n hs (by omega)]
  obtain ⟨v1, h1⟩ := d_trait σ (σ.2.1 1 (LQ σ 0 ((m * 16 + n) / 16)) (nI (m * 16 + n)).toNatClampNeg) 4
  obtain ⟨v3, h3⟩ := d_calls σ (LQ σ 0 ((m * 16 + n) / 16)) hs
  obtain ⟨v4, h4⟩ := d_part σ (σ.1 35 (LQ σ 0 ((m * 16 + n) / 16)) (nI (m * 16 + n)).toNatClampNeg) (nI w - 4)
  rw [h1, h3, h4, bnd_s, bnd_s, bnd_s]
  repeat' split
  all_goals exact ⟨_, rfl⟩
theorem d_why (hB : BASE σ mc) (hm : m < mc) (hw : w ≤ 3) : ∃ v, m_X10_why σ (nI m) (nI w) = some v := by
  have hmc := hB.2.1.2
  have hN := d_ne hB hm
  have hL := hB.2.2.2.2.1.1
  have hO := hB.1.osl
  have hC := hB.2.2.2.2.1.2.2.2.2.1
  obtain ⟨v, hv⟩ := d_reason hB hm
  have hr := q_resultOf hL hN
  obtain ⟨va, ha, _⟩ := q_otherAnswer (r := LQ σ 0 (sm8 (σ.1 15 0 m))) hL hO
  obtain ⟨vt, ht, _⟩ := q_otherText (r := LQ σ 0 (sm8 (σ.1 15 0 m))) hC
  obtain ⟨vu, hu, _⟩ := q_unbuilt (σ.1 15 0 m) hL
  obtain ⟨vs, hs⟩ := d_small σ (σ.1 15 0 m)
  obtain ⟨vp, hp⟩ := d_part σ va (nI w - 2)
  have h30 := (hL.q (sm8_s hN).1).2
  have hc : ∃ z, m_X9_culpritOf σ 0 (σ.1 15 0 m) v = some z := by
    unfold m_X9_culpritOf
    rw [hu, hs, hr, bnd_s, bnd_s, bnd_s, chk_e (by rw [decide_eq_true_eq]; exact h30), ht, bnd_s]
    repeat' split
    all_goals exact ⟨_, rfl⟩
  obtain ⟨vc, hc⟩ := hc
  unfold m_X10_why
  rw [q_chkM hB.2.1 hm, bnd_s, q_within σ (by rw [ltz (by omega)]; exact fun z => z) (by rw [show (3 : Int32) = nI 3 from rfl, le_n (by omega) (by omega)]; exact hw), bnd_s, chk_n (by omega) (by omega), cl_nI (by omega), hv, bnd_s, hc, bnd_s, hr, bnd_s, chk_e (by rw [decide_eq_true_eq]; exact h30), ha, bnd_s, hp, bnd_s]
  repeat' split
  all_goals exact ⟨_, rfl⟩
theorem d_alld (hB : BASE σ mc) : ∃ v, m_X8_allDeclarations σ 0 = some v := by
  have hmc := hB.2.1.2
  have key : ∀ n k y, k ≤ mc → mc - k < n → ∃ v, m_X8_allDeclarations_4 σ 0 n y (nI k) = some v := by
    intro n
    induction n with
    | zero => intro k y _ h; omega
    | succ n ih =>
      intro k y hk hn
      rw [m_X8_allDeclarations_4, hB.2.1.1]
      by_cases h : k = mc
      · rw [if_pos (by rw [le_n (by omega) (by omega)]; omega)]; exact ⟨_, rfl⟩
      · rw [if_neg (by rw [le_n (by omega) (by omega)]; omega), q_declOf σ 0 (by omega), bnd_s, nI_1]
        exact ih (k + 1) _ (by omega) (by omega)
  exact key 1000 0 0 (by omega) (by omega)
theorem d_alli (hB : BASE σ mc) : ∃ v, m_X8_allImports σ 0 = some v := by
  have hmc := hB.2.1.2
  have key : ∀ n k y, k ≤ mc → mc - k < n → ∃ v, m_X8_allImports_4 σ 0 n y (nI k) = some v := by
    intro n
    induction n with
    | zero => intro k y _ h; omega
    | succ n ih =>
      intro k y hk hn
      rw [m_X8_allImports_4, hB.2.1.1]
      by_cases h : k = mc
      · rw [if_pos (by rw [le_n (by omega) (by omega)]; omega)]; exact ⟨_, rfl⟩
      · rw [if_neg (by rw [le_n (by omega) (by omega)]; omega), chk_n (by omega) (by omega), nI_1]
        exact ih (k + 1) _ (by omega) (by omega)
  exact key 1000 0 0 (by omega) (by omega)
theorem d_many (hB : BASE σ mc) (hw : w ≤ 9) : ∃ v, m_X10_many σ (nI w) = some v := by
  obtain ⟨v1, h1⟩ := d_alld hB
  obtain ⟨v2, h2⟩ := d_alli hB
  obtain ⟨v4, _, h4, _⟩ := stale_due hB
  unfold m_X10_many
  rw [q_within σ (by rw [ltz (by omega)]; exact fun z => z) (by rw [show (9 : Int32) = nI 9 from rfl, le_n (by omega) (by omega)]; exact hw), bnd_s, h1, h2, h4, q_faults hB.2.2.2.2.1.1, bnd_s, bnd_s, bnd_s, bnd_s]
  repeat' split
  all_goals exact ⟨_, rfl⟩
theorem d_fault (hB : BASE σ mc) {k : Nat} (hk : k < cntB (fyB σ) 128) (hw : w ≤ 2) : ∃ v, m_X10_fault σ (nI k) (nI w) = some v := by
  obtain ⟨i, hi, hf, hc⟩ := cnt_at _ _ _ hk
  obtain ⟨q0, q1, q2⟩ := q_fault hB.2.2.2.2.1.1 hi hf
  rw [hc] at q0 q1 q2
  rcases (show w = 0 ∨ w = 1 ∨ w = 2 by omega) with rfl | rfl | rfl
  · exact ⟨_, q0⟩
  · exact ⟨_, q1⟩
  · exact ⟨_, q2⟩
theorem d_asNew (hB : BASE σ mc) : ∃ v, m_X10_isAsNew σ = some v := by
  obtain ⟨v4, _, h4, _⟩ := stale_due hB
  unfold m_X10_isAsNew
  rw [h4, bnd_s]
  split
  · exact ⟨_, rfl⟩
  · exact ⟨_, rfl⟩
end DFN
theorem MFR.rv {σ τ : Sg} {mc s : Nat} (h : MFR σ τ) (hB : BASE σ mc) (hs : s < 128) : runV τ s = runV σ s := by
  have hL := hB.2.2.2.2.1.1
  have e : ∀ c, 31 ≤ c → c ≤ 36 → ∀ s, s < 128 → fld σ c s = fld τ c s := fun c h1 h2 s hs => by
    unfold fld
    have := hB.2.2.2.2.1.2.1 (s / 16) (by omega)
    rw [h.lq, h.r (c := c) (by omega) (by omega)]
  have sl : ∀ s, s < 128 → SL1 (fld σ 35 s) ∧ SL1 (fld σ 36 s) := fun s hs => ⟨(sf_at hL hB.2.2.2.1 hs).2.2.2.2.2.2.1, (sf_at hL hB.2.2.2.1 hs).2.2.2.2.2.2.2.1⟩
  unfold runV
  exact (vL_c (e 31 (by omega) (by omega)) (e 34 (by omega) (by omega)) (e 35 (by omega) (by omega)) (e 36 (by omega) (by omega)) (fun s h => (sl s h).1) (fun s h => (sl s h).2) _ _ _ (fun x hx => by
    rw [List.mem_singleton] at hx
    rw [hx]; exact ⟨Nat.zero_le _, hs⟩)).symm
theorem MFR.rnd {σ τ : Sg} {mc k : Nat} (h : MFR σ τ) (hB : BASE σ mc) : rndS τ k = rndS σ k := by
  obtain ⟨r1, r2, r3⟩ := h.rg
  unfold rndS
  rw [h.cx, r1, r2, r3]
  exact roA_c hB.rg.2.1 _ _ _ (h.ve hB.2.2.2.2.1)
def OKD (σ : Sg) (mc : Nat) (D : Int64) (x : Option (Sg × Int64)) : Prop := ok (fun q => MFR σ q.1 ∧ BASE q.1 mc ∧ q.2 = D) x
theorem g74 {σ : Sg} {mc m n : Nat} (hB : BASE σ mc) (hm : m < mc) (hn : n < 16) (X1 : Int64) : ∀ j k, k + j = 6 → ∀ d : Int64, ∃ D, ∀ f τ, j < f → MFR σ τ → BASE τ mc → OKD σ mc D (m_X10_digestOfName_74 X1 (nI m) (nI n) f τ d (nI k))
  | 0, k, hk, d => ⟨d * 31 + (runV σ (m * 16 + n)).toInt64, fun f τ hf h hBt => by
      obtain ⟨f, rfl⟩ : ∃ z, f = z + 1 := ⟨f - 1, by omega⟩
      have hmc := hB.2.1.2
      rw [m_X10_digestOfName_74, if_pos (by rw [show k = 6 by omega]; decide)]
      refine ok_b2 (s_run hBt hm hn) (fun σ1 r hr => ?_)
      obtain ⟨g1, g2⟩ := hr
      have g2' : r = runV τ (m * 16 + n) := g2
      refine ok_r ⟨h.tr g1.mfr, g1.base hBt, ?_⟩
      show d * 31 + r.toInt64 = _
      rw [g2', h.rv hB (by omega)]⟩
  | j + 1, k, hk, d => by
      obtain ⟨v, hv⟩ := d_built hB hm hn (show k ≤ 5 by omega)
      obtain ⟨D, hD⟩ := g74 hB hm hn X1 j (k + 1) (by omega) (d * 31 + v.toInt64)
      refine ⟨D, fun f τ hf h hBt => ?_⟩
      obtain ⟨f, rfl⟩ : ∃ z, f = z + 1 := ⟨f - 1, by omega⟩
      rw [m_X10_digestOfName_74, if_neg (by rw [show (5 : Int32) = nI 5 from rfl, lt_n (by omega) (by omega)]; omega), e_built h hB.2.2.2.2.1, hv, bnd_s, nI_1]
      exact hD f τ (by omega) h hBt
theorem g40 {σ : Sg} {mc m n : Nat} (hB : BASE σ mc) (hm : m < mc) (hn : n < 16) (X1 : Int64) : ∀ j k, k + j = 6 → ∀ d : Int64, ∃ D, ∀ f τ, j < f → MFR σ τ → BASE τ mc → OKD σ mc D (m_X10_digestOfName_40 X1 (nI m) (nI n) f τ d (nI k))
  | 0, k, hk, d => by
      obtain ⟨D, hD⟩ := g74 hB hm hn X1 6 0 (by omega) d
      refine ⟨D, fun f τ hf h hBt => ?_⟩
      obtain ⟨f, rfl⟩ : ∃ z, f = z + 1 := ⟨f - 1, by omega⟩
      rw [m_X10_digestOfName_40, if_pos (by rw [show k = 6 by omega]; decide)]
      exact hD 1000 τ (by omega) h hBt
  | j + 1, k, hk, d => by
      obtain ⟨v, hv⟩ := d_outside hB hm hn (show k ≤ 5 by omega)
      obtain ⟨D, hD⟩ := g40 hB hm hn X1 j (k + 1) (by omega) (d * 31 + v.toInt64)
      refine ⟨D, fun f τ hf h hBt => ?_⟩
      obtain ⟨f, rfl⟩ : ∃ z, f = z + 1 := ⟨f - 1, by omega⟩
      rw [m_X10_digestOfName_40, if_neg (by rw [show (5 : Int32) = nI 5 from rfl, lt_n (by omega) (by omega)]; omega), e_outside h hB.2.2.2.2.1, hv, bnd_s, nI_1]
      exact hD f τ (by omega) h hBt
theorem g06 {σ : Sg} {mc m n : Nat} (hB : BASE σ mc) (hm : m < mc) (hn : n < 16) (X1 : Int64) : ∀ j k, k + j = 2 → ∀ d : Int64, ∃ D, ∀ f τ, j < f → MFR σ τ → BASE τ mc → OKD σ mc D (m_X10_digestOfName_6 X1 (nI m) (nI n) f τ d (nI k))
  | 0, k, hk, d => by
      obtain ⟨D, hD⟩ := g40 hB hm hn X1 6 0 (by omega) d
      refine ⟨D, fun f τ hf h hBt => ?_⟩
      obtain ⟨f, rfl⟩ : ∃ z, f = z + 1 := ⟨f - 1, by omega⟩
      rw [m_X10_digestOfName_6, if_pos (by rw [show k = 2 by omega]; decide)]
      exact hD 1000 τ (by omega) h hBt
  | j + 1, k, hk, d => by
      obtain ⟨v, hv⟩ := d_within hB hm hn (show k ≤ 1 by omega)
      obtain ⟨D, hD⟩ := g06 hB hm hn X1 j (k + 1) (by omega) (d * 31 + v.toInt64)
      refine ⟨D, fun f τ hf h hBt => ?_⟩
      obtain ⟨f, rfl⟩ : ∃ z, f = z + 1 := ⟨f - 1, by omega⟩
      rw [m_X10_digestOfName_6, if_neg (by rw [show (1 : Int32) = nI 1 from rfl, lt_n (by omega) (by omega)]; omega), e_within h, hv, bnd_s, nI_1]
      exact hD f τ (by omega) h hBt
theorem g_name {σ : Sg} {mc m n : Nat} (hB : BASE σ mc) (hm : m < mc) (hn : n < 16) (d : Int64) : ∃ D, ∀ τ, MFR σ τ → BASE τ mc → OKD σ mc D (m_X10_digestOfName τ d (nI m) (nI n)) := by
  obtain ⟨D, hD⟩ := g06 hB hm hn d 2 0 (by omega) d
  exact ⟨D, fun τ h hBt => hD 1000 τ (by omega) h hBt⟩
theorem g71 {σ : Sg} {mc m : Nat} (hB : BASE σ mc) (hm : m < mc) (X1 : Int64) : ∀ j k, k + j = 16 → ∀ d : Int64, ∃ D, ∀ f τ, j < f → MFR σ τ → BASE τ mc → OKD σ mc D (m_X10_digestOfModule_71 X1 (nI m) f τ d (nI k))
  | 0, k, hk, d => ⟨d, fun f τ hf h hBt => by
      obtain ⟨f, rfl⟩ : ∃ z, f = z + 1 := ⟨f - 1, by omega⟩
      rw [m_X10_digestOfModule_71, if_pos (by rw [show k = 16 by omega]; decide)]
      exact ok_r ⟨h, hBt, rfl⟩⟩
  | j + 1, k, hk, d => by
      obtain ⟨v, hv⟩ := g_name hB hm (show k < 16 by omega) d
      obtain ⟨D, hD⟩ := g71 hB hm X1 j (k + 1) (by omega) v
      refine ⟨D, fun f τ hf h hBt => ?_⟩
      obtain ⟨f, rfl⟩ : ∃ z, f = z + 1 := ⟨f - 1, by omega⟩
      rw [m_X10_digestOfModule_71, if_neg (by rw [le_16 (by omega)]; omega)]
      refine ok_b2 (hv τ h hBt) (fun σ1 r hr => ?_)
      obtain ⟨g1, g2, g3⟩ := hr
      have g3' : r = v := g3
      rw [g3', nI_1]
      exact hD f σ1 (by omega) g1 g2
theorem g39 {σ : Sg} {mc m : Nat} (hB : BASE σ mc) (hm : m < mc) (X1 : Int64) : ∀ j k, k + j = 4 → ∀ d : Int64, ∃ D, ∀ f τ, j < f → MFR σ τ → BASE τ mc → OKD σ mc D (m_X10_digestOfModule_39 X1 (nI m) f τ d (nI k))
  | 0, k, hk, d => by
      obtain ⟨D, hD⟩ := g71 hB hm X1 16 0 (by omega) d
      refine ⟨D, fun f τ hf h hBt => ?_⟩
      obtain ⟨f, rfl⟩ : ∃ z, f = z + 1 := ⟨f - 1, by omega⟩
      rw [m_X10_digestOfModule_39, if_pos (by rw [show k = 4 by omega]; decide)]
      exact hD 1000 τ (by omega) h hBt
  | j + 1, k, hk, d => by
      obtain ⟨v, hv⟩ := d_why hB hm (show k ≤ 3 by omega)
      obtain ⟨D, hD⟩ := g39 hB hm X1 j (k + 1) (by omega) (d * 31 + v.toInt64)
      refine ⟨D, fun f τ hf h hBt => ?_⟩
      obtain ⟨f, rfl⟩ : ∃ z, f = z + 1 := ⟨f - 1, by omega⟩
      rw [m_X10_digestOfModule_39, if_neg (by rw [show (3 : Int32) = nI 3 from rfl, lt_n (by omega) (by omega)]; omega), e_why h hB.2.2.2.2.1, hv, bnd_s, nI_1]
      exact hD f τ (by omega) h hBt
theorem gm6 {σ : Sg} {mc m : Nat} (hB : BASE σ mc) (hm : m < mc) (X1 : Int64) : ∀ j k, k + j = 9 → ∀ d : Int64, ∃ D, ∀ f τ, j < f → MFR σ τ → BASE τ mc → OKD σ mc D (m_X10_digestOfModule_6 X1 (nI m) f τ d (nI k))
  | 0, k, hk, d => by
      obtain ⟨D, hD⟩ := g39 hB hm X1 4 0 (by omega) d
      refine ⟨D, fun f τ hf h hBt => ?_⟩
      obtain ⟨f, rfl⟩ : ∃ z, f = z + 1 := ⟨f - 1, by omega⟩
      rw [m_X10_digestOfModule_6, if_pos (by rw [show k = 9 by omega]; decide)]
      exact hD 1000 τ (by omega) h hBt
  | j + 1, k, hk, d => by
      obtain ⟨v, hv⟩ := d_ofModule hB hm (show k ≤ 8 by omega)
      obtain ⟨D, hD⟩ := gm6 hB hm X1 j (k + 1) (by omega) (d * 31 + v.toInt64)
      refine ⟨D, fun f τ hf h hBt => ?_⟩
      obtain ⟨f, rfl⟩ : ∃ z, f = z + 1 := ⟨f - 1, by omega⟩
      rw [m_X10_digestOfModule_6, if_neg (by rw [show (8 : Int32) = nI 8 from rfl, lt_n (by omega) (by omega)]; omega), e_ofModule h hB.2.2.2.2.1, hv, bnd_s, nI_1]
      exact hD f τ (by omega) h hBt
theorem g_mod {σ : Sg} {mc m : Nat} (hB : BASE σ mc) (hm : m < mc) (d : Int64) : ∃ D, ∀ τ, MFR σ τ → BASE τ mc → OKD σ mc D (m_X10_digestOfModule τ d (nI m)) := by
  obtain ⟨D, hD⟩ := gm6 hB hm d 9 0 (by omega) d
  exact ⟨D, fun τ h hBt => hD 1000 τ (by omega) h hBt⟩
theorem g77 {σ : Sg} {mc k : Nat} (hB : BASE σ mc) (hk : k < cntB (fyB σ) 128) : ∀ j w, w + j = 3 → ∀ d : Int64, ∃ d', ∀ (D : Int64) (k68 : Sg → Int64 → Int32 → Int32 → Option (Sg × Int64)), (∀ τ, MFR σ τ → BASE τ mc → OKD σ mc D (k68 τ d' (nI (cntB (fyB σ) 128)) (nI (k + 1)))) → ∀ f τ, j < f → MFR σ τ → BASE τ mc → OKD σ mc D (m_X10_digest_77 k68 f τ d (nI (cntB (fyB σ) 128)) (nI k) (nI w))
  | 0, w, hw, d => ⟨d, fun D k68 hk68 f τ hf h hBt => by
      obtain ⟨f, rfl⟩ : ∃ z, f = z + 1 := ⟨f - 1, by omega⟩
      rw [m_X10_digest_77, if_pos (by rw [show w = 3 by omega]; decide), nI_1]
      exact hk68 τ h hBt⟩
  | j + 1, w, hw, d => by
      obtain ⟨v, hv⟩ := d_fault hB hk (show w ≤ 2 by omega)
      obtain ⟨d', hD⟩ := g77 hB hk j (w + 1) (by omega) (d * 31 + v.toInt64)
      refine ⟨d', fun D k68 hk68 f τ hf h hBt => ?_⟩
      obtain ⟨f, rfl⟩ : ∃ z, f = z + 1 := ⟨f - 1, by omega⟩
      rw [m_X10_digest_77, if_neg (by rw [show (2 : Int32) = nI 2 from rfl, lt_n (by omega) (by omega)]; omega), e_fault h hB.2.2.2.2.1, hv, bnd_s, nI_1]
      exact hD D k68 hk68 f τ (by omega) h hBt
