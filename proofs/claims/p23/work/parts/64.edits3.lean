/-! EDITS, on: imports; the law's edit -/
def impV (f p u a : Nat) : Int32 := ((nI f ||| (nI p <<< (nI 3 &&& 31))) ||| (nI u <<< (nI 8 &&& 31))) ||| nI a
theorem imp_name {f p u a : Nat} (hf : f < 8) (hp : p ≤ 16) (ha : a = 0 ∨ a = 4096) : impName (impV f p u a) = p := by
  unfold impName
  refine mod5 (by omega) (fun i hi => ?_)
  show bt (impV f p u a >>> (nI 3 &&& 31)) i = _
  have h12 : bt (nI a) (3 + i) = false := by
    rcases ha with rfl | rfl
    · exact b_0 _
    · rw [bt_nI _ _ (by omega)]
      exact (by decide +kernel : ∀ i, i < 5 → Nat.testBit 4096 (3 + i) = false) i hi
  rw [b_sshr 3 (by omega) _ (by omega), if_pos (by omega)]
  unfold impV
  rw [b_or, b_or, b_or, b_shl 3 (by omega) _ (by omega), b_shl 8 (by omega) _ (by omega), h12, b_sm (a := f) (k := 3) (by omega) (by omega) (by omega), bt_nI _ _ (by omega), decide_eq_true (show 3 ≤ 3 + i by omega), decide_eq_false (show ¬ 8 ≤ 3 + i by omega), show 3 + i - 3 = i by omega]
  simp
theorem q_impOf (σ : Sg) {f p u : Nat} {x : Int32} : m_X2_of σ (nI f) (nmI p) (nI u) x = some (impV f p u (if x = 0 then 0 else 4096)) := by
  unfold m_X2_of
  rw [nmI_1]
  by_cases h : x = 0
  · rw [if_pos h, if_pos h]; rfl
  · rw [if_neg h, if_neg h]; rfl
/-- a text with other imports in one module -/
theorem TX.im {σ σ' : Sg} {m c : Nat} (hT : TX σ 0) (hc : c ≤ 5) (h26 : σ'.1 26 0 = σ.1 26 0) (h28 : ∀ m', m' < 8 → σ'.1 28 0 m' = if m' = m then nI c else σ.1 28 0 m') (h27 : ∀ m' k, m' < 8 → ¬ m' = m → k < 5 → imp σ' 0 m' k = imp σ 0 m' k) (hi : ∀ k, k < c → impName (imp σ' 0 m k) ≤ 16) : TX σ' 0 := by
  have hcn : ∀ m', m' < 8 → cnt σ' 0 m' = if m' = m then c else cnt σ 0 m' := fun m' hm' => by
    unfold cnt
    rw [h28 m' hm']
    by_cases e : m' = m
    · rw [if_pos e, if_pos e, cl_nI (by omega)]
    · rw [if_neg e, if_neg e]
  refine ⟨fun m' hm' => ?_, fun m' k hm' hk => ?_, by rw [h26]; exact hT.2.2⟩
  · rw [hcn m' hm', h28 m' hm']
    by_cases e : m' = m
    · rw [if_pos e, if_pos e]; exact ⟨hc, rfl⟩
    · rw [if_neg e, if_neg e]; exact hT.1 m' hm'
  · rw [hcn m' hm'] at hk
    by_cases e : m' = m
    · rw [if_pos e] at hk; subst e; exact hi k hk
    · rw [if_neg e] at hk
      have := (hT.1 m' hm').1
      rw [h27 m' k hm' e (by omega)]
      exact hT.2.1 m' k hm' hk
theorem s_bring {σ : Sg} {mc m f p u : Nat} {x : Int32} (hL : LI σ mc) (hm : m < mc) (hf : f < 8) (hfm : ¬ f = m) (hp : p ≤ 16) (hu : u < 16) (hpu : p = 0 → u = 0) (h5 : ¬ cnt σ 0 m = 5) : ok (fun r => LI r.1 mc ∧ EDF σ r.1 ∧ ∃ c, c ≤ 5 ∧ r.2 = nI c) (m_X10_bring σ (nI m) (nI f) (nmI p) (nI u) x) := by
  obtain ⟨hB, hD⟩ := hL
  have hM := hB.2.1
  have hmc := hM.2
  have ht := hB.1.1.1 m (by omega)
  have k62 : ok (fun r => LI r.1 mc ∧ EDF σ r.1 ∧ ∃ c, c ≤ 5 ∧ r.2 = nI c) (m_X10_bring_62 (nI m) (nI f) (nmI p) (nI u) x σ) := by
    unfold m_X10_bring_62 m_X8_addImport
    rw [chk_n (by omega) (by omega), cl_nI (by omega), ht.2, if_pos (by rw [show (5 : Int32) = nI 5 from rfl, lt_n (by omega) (by omega)]; omega), q_impOf, bnd_s, chk_n (by omega) (by omega), ix5, chk_n (by omega) (by omega), st_s, cl_nI (by omega), chk_n (by omega) (by omega), chk_n (by omega) (by omega), wI_ne _ _ _ _ _ _ (show ¬ (28 : Nat) = 27 by decide), ht.2, nI_1, st_s, bnd_s]
    have hnm := imp_name (f := f) (p := p) (u := u) (a := if x = 0 then 0 else 4096) hf hp (by split <;> simp)
    generalize impV f p u (if x = 0 then 0 else 4096) = v at *
    have hTX : TX (wI (wI σ 27 0 (m * 5 + cnt σ 0 m) v) 28 0 m (nI (cnt σ 0 m + 1))) 0 := by
      refine hB.1.1.im (m := m) (c := cnt σ 0 m + 1) (by omega) ?_ (fun m' hm' => ?_) (fun m' k hm' hne hk => ?_) (fun k hk => ?_)
      · rw [wI_co _ _ _ _ _ (by omega), wI_co _ _ _ _ _ (by omega)]
      · rw [wI_1]
        by_cases e : m' = m
        · rw [if_pos ⟨rfl, rfl, e⟩, if_pos e]
        · rw [if_neg (fun q => e q.2.2), if_neg e, wI_ne _ _ _ _ _ _ (by decide)]
      · unfold imp
        rw [wI_ne _ _ _ _ _ _ (by decide), wI_1, if_neg (by omega)]
      · unfold imp
        rw [wI_ne _ _ _ _ _ _ (by decide), wI_1]
        by_cases e : k = cnt σ 0 m
        · rw [if_pos ⟨rfl, rfl, by omega⟩, hnm]; exact hp
        · rw [if_neg (by omega)]
          exact hB.1.1.2.1 m k (by omega) (by omega)
    refine ok_b (s_settle (mc := mc) hTX ⟨by rw [wI_ne _ _ _ _ _ _ (by decide), wI_ne _ _ _ _ _ _ (by decide)]; exact hM.1, hM.2⟩) (fun σ1 h1 => ?_)
    obtain ⟨g1, g2, g3, g4, g5⟩ := h1
    have hE : EDF σ σ1 := ((EDF.w σ _ _ (by omega)).tr (EDF.w _ _ _ (by omega))).tr g1
    rw [chk_n (by omega) (by omega)]
    refine ok_r ⟨⟨hB.ed hE g3 g4 g5, fun m' hm' => ?_⟩, hE, cnt σ 0 m, ht.1, ?_⟩
    · have e0 : cntD σ1 0 m' = cntD σ 0 m' := cntD_c (by rw [g2 26 (by omega) (by omega), wI_co _ _ _ _ _ (by omega), wI_co _ _ _ _ _ (by omega)])
      show cntD σ1 0 m' ≤ 6
      rw [e0]; exact hD m' hm'
    · show σ1.1 28 0 m - 1 = _
      rw [g2 28 (by omega) (by omega), wI_s, sub_1 (by omega), show cnt σ 0 m + 1 - 1 = cnt σ 0 m by omega]
  unfold m_X10_bring
  rw [q_chkM hM hm, bnd_s, q_w7 σ (by omega), bnd_s, q_wn σ hp, bnd_s, q_w15 σ (by omega), bnd_s, if_neg (by rw [eq_n (by omega) (by omega)]; exact hfm)]
  by_cases h0 : p = 0
  · rw [if_pos (by unfold nmI; rw [if_pos h0]), if_pos (by rw [hpu h0]; rfl)]
    exact k62
  · rw [if_neg (by unfold nmI; rw [if_neg h0]; exact nI_ne_m1 (by omega))]
    exact k62
theorem s_leave {σ : Sg} {mc m : Nat} (hL : LI σ mc) (hm : m < mc) (h0 : ¬ cnt σ 0 m = 0) : ok (fun r => LI r.1 mc ∧ EDF σ r.1 ∧ ∃ c, c ≤ 5 ∧ r.2 = nI c) (m_X10_leave σ (nI m) (nI 0)) := by
  obtain ⟨hB, hD⟩ := hL
  have hM := hB.2.1
  have hmc := hM.2
  have ht := hB.1.1.1 m (by omega)
  unfold m_X10_leave m_X8_removeImport
  rw [q_chkM hM hm, bnd_s, if_neg (by rw [ltz (by omega)]; exact id), chk_n (by omega) (by omega), cl_nI (by omega), ht.2, if_pos (by rw [lt_n (by omega) (by omega)]; omega), chk_n (by omega) (by omega), chk_n (by omega) (by omega), sub_1 (by omega), st_s]
  have key : ∀ n k σ1, k ≤ cnt σ 0 m - 1 → cnt σ 0 m - 1 - k < n → (EDF σ σ1 ∧ σ1.1 26 0 = σ.1 26 0 ∧ σ1.1 29 0 = σ.1 29 0 ∧ (∀ m', m' < 8 → σ1.1 28 0 m' = if m' = m then nI (cnt σ 0 m - 1) else σ.1 28 0 m') ∧ (∀ m' i, m' < 8 → ¬ m' = m → i < 5 → imp σ1 0 m' i = imp σ 0 m' i) ∧ ∀ i, i < cnt σ 0 m → impName (imp σ1 0 m i) ≤ 16) → ok (fun σ1 => EDF σ σ1 ∧ σ1.1 26 0 = σ.1 26 0 ∧ σ1.1 29 0 = σ.1 29 0 ∧ σ1.1 28 0 m = nI (cnt σ 0 m - 1) ∧ TX σ1 0) (m_X8_removeImport_12 0 (nI m) (nI 0) n σ1 (nI k)) := by
    intro n
    induction n with
    | zero => intro k _ _ h; omega
    | succ n ih =>
      intro k σ1 hk hn hI
      obtain ⟨i1, i2, i2b, i3, i4, i5⟩ := hI
      have e28 : σ1.1 28 0 m = nI (cnt σ 0 m - 1) := by rw [i3 m (by omega), if_pos rfl]
      rw [m_X8_removeImport_12, chk_n (by omega) (by omega), cl_nI (by omega), e28]
      by_cases e : k = cnt σ 0 m - 1
      · rw [if_pos (by rw [le_n (by omega) (by omega)]; omega)]
        exact ok_r ⟨i1, i2, i2b, e28, hB.1.1.im (by omega) i2 i3 i4 (fun i hi => i5 i (by omega))⟩
      · rw [if_neg (by rw [le_n (by omega) (by omega)]; omega), show nI m * (5 : Int32) + nI k + (1 : Int32) = nI (m * 5 + k + 1) by rw [ix5, nI_1], ix5, chk_n (by omega) (by omega), chk_n (by omega) (by omega), st_s, cl_nI (by omega), cl_nI (by omega), nI_1]
        refine ih (k + 1) _ (by omega) (by omega) ⟨i1.tr (EDF.w _ _ _ (by omega)), by rw [wI_co _ _ _ _ _ (by omega)]; exact i2, by rw [wI_co _ _ _ _ _ (by omega)]; exact i2b, fun m' hm' => by rw [wI_ne _ _ _ _ _ _ (by decide)]; exact i3 m' hm', fun m' i hm' hne hi => ?_, fun i hi => ?_⟩
        · unfold imp
          rw [wI_1, if_neg (by omega)]
          exact i4 m' i hm' hne hi
        · unfold imp
          rw [wI_1]
          by_cases e2 : i = k
          · rw [if_pos ⟨rfl, rfl, by omega⟩]
            have := i5 (k + 1) (by omega)
            unfold imp at this
            exact this
          · rw [if_neg (by omega)]
            exact i5 i hi
  have h1 := key 1000 0 (wI σ 28 0 m (nI (cnt σ 0 m - 1))) (by omega) (by omega) ⟨EDF.w _ _ _ (by omega), wI_co _ _ _ _ _ (by omega), wI_co _ _ _ _ _ (by omega), fun m' hm' => by
    rw [wI_1]
    by_cases e : m' = m
    · rw [if_pos ⟨rfl, rfl, e⟩, if_pos e]
    · rw [if_neg (fun q => e q.2.2), if_neg e], fun m' i _ _ _ => by unfold imp; rw [wI_ne _ _ _ _ _ _ (by decide)], fun i hi => by
    have := hB.1.1.2.1 m i (by omega) hi
    unfold imp at *
    rw [wI_ne _ _ _ _ _ _ (by decide)]; exact this⟩
  refine ok_b h1 (fun σ2 h2 => ?_)
  obtain ⟨j1, j2, j3, j4, j5⟩ := h2
  refine ok_b (s_settle (mc := mc) j5 ⟨by rw [j3]; exact hM.1, hM.2⟩) (fun σ1 h1 => ?_)
  obtain ⟨g1, g2, g3, g4, g5⟩ := h1
  have hE : EDF σ σ1 := j1.tr g1
  rw [chk_n (by omega) (by omega)]
  refine ok_r ⟨⟨hB.ed hE g3 g4 g5, fun m' hm' => ?_⟩, hE, cnt σ 0 m - 1, by omega, ?_⟩
  · have e0 : cntD σ1 0 m' = cntD σ 0 m' := cntD_c (by rw [g2 26 (by omega) (by omega), j2])
    show cntD σ1 0 m' ≤ 6
    rw [e0]; exact hD m' hm'
  · show σ1.1 28 0 m = _
    rw [g2 28 (by omega) (by omega), j4]
