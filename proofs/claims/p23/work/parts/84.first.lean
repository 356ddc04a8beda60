/-! A NEW MILL keeps to what the law asks, behind its first module -/
theorem sg0_TX : TX sg0 0 := by
  have c0 : ∀ m, cnt sg0 0 m = 0 := fun m => rfl
  refine ⟨fun m _ => ?_, fun m k _ hk => ?_, fun s _ h => absurd rfl h⟩
  · rw [c0]; exact ⟨Nat.zero_le _, rfl⟩
  · rw [c0] at hk; omega
theorem sg0_own {σ : Sg} (h : ∀ c, 30 ≤ c → σ.1 c = sg0.1 c) {r i : Nat} (hi : i < 128) : ∀ c, 31 ≤ c → c ≤ 36 → dfD c i = own σ r c i := by
  intro c h1 h2
  unfold own
  rw [h c (by omega)]
  rcases (show c = 31 ∨ c = 32 ∨ c = 33 ∨ c = 34 ∨ c = 35 ∨ c = 36 by omega) with rfl | rfl | rfl | rfl | rfl | rfl
  · show (1 : Int32) = upt 128 1 i
    unfold upt; rw [if_pos hi]
  · rfl
  · rfl
  · rfl
  · show (-1 : Int32) = upt 128 (-1) i
    unfold upt; rw [if_pos hi]
  · show (-1 : Int32) = upt 128 (-1) i
    unfold upt; rw [if_pos hi]
theorem s_first : ok (fun q => LZ q.1 1 ∧ q.2 = nI 0) (m_X10_module sg0) := by
  unfold m_X10_module
  rw [show sg0.1 29 0 0 = nI 0 from rfl, if_pos (by decide), st_s, nI_1]
  have hTX : TX (wI sg0 29 0 0 (nI 1)) 0 := sg0_TX.c (fun c h1 h2 => wI_co _ _ _ _ _ (by omega))
  refine ok_b (s_settle (mc := 1) hTX ⟨wI_s _ _ _ _ _, by omega⟩) (fun σ1 h1 => ?_)
  obtain ⟨g1, g2, g3, g4, g5⟩ := h1
  have hE : EDF sg0 σ1 := (EDF.w sg0 _ _ (by omega)).tr g1
  have hP : σ1.2 = sg0.2 := hE.2
  have h30 : ∀ c, 30 ≤ c → σ1.1 c = sg0.1 c := fun c hc => by
    funext o
    exact hE.1 c o (by omega) (by omega)
  have hl0 : ∀ w m, m < 8 → σ1.2.2 0 w m = some (20 * w) := fun w m hm => by
    rw [hP]
    show refU 8 (fun _ => 20 * w) m = _
    unfold refU; rw [if_pos hm]
  have hq0 : ∀ m, m < 8 → LQ σ1 0 m = 0 := fun m hm => by unfold LQ; rw [hl0 0 m hm]; rfl
  have hpl : ∀ w, POOL σ1 w := fun w k hk => by
    rw [hP]
    show refU (lenP 3 w) (fun z => 20 * w + 1 + z) k = _
    unfold refU; rw [if_pos hk]
  have hSF : SF σ1 := fun r _ i hi => by
    refine ⟨?_, SFA_c (sg0_own h30 hi) (SFA_df i)⟩
    rw [← ansOf_c (sg0_own h30 hi), hP]
    show uptJ 128 (fun j => ansOf dfD j) i = _
    unfold uptJ; rw [if_pos hi]
  have h19 : ∀ w, σ1.1 19 w 0 = 0 := fun w => by rw [hE.1 19 w (by omega) (by omega)]; rfl
  have hIW : IW σ1 0 := ⟨fun m hm => ⟨0, hl0 0 m hm, by omega⟩, fun m hm => by rw [hq0 m hm]; omega, ⟨0, ⟨h19 0, Nat.zero_le _, fun k hk => by omega⟩, fun k hk => by omega⟩, hpl 0, g3.1.1, TSI.z σ1⟩
  have hB : BASE σ1 1 := ⟨g3, g4, g5, hSF, hIW, fun m hm => Or.inl (hq0 m hm), h19 1, hpl 1, by rw [h30 30 (by omega)]; rfl, fun s _ => by rw [hE.1 26 2 (by omega) (by omega)]; rfl⟩
  refine ok_r ⟨⟨⟨hB, fun m hm => ?_⟩, fun m _ hm => ?_⟩, ?_⟩
  · have e : cntD σ1 0 m = cntD sg0 0 m := cntD_c (by rw [g2 26 (by omega) (by omega)]; exact wI_co _ _ _ _ _ (by omega))
    show cntD σ1 0 m ≤ 6
    rw [e, show cntD sg0 0 m = 0 from cntB_zero 16]
    omega
  · show σ1.1 30 (LQ σ1 0 m) 0 = 0
    rw [hq0 m hm, h30 30 (by omega)]; rfl
  · show σ1.1 29 0 0 - 1 = nI 0
    rw [g4.1, sub_1 (by omega)]
theorem LZ.module {σ : Sg} {mc : Nat} (h : LZ σ mc) (hmc : mc < 8) : ok (fun q => LZ q.1 (mc + 1) ∧ q.2 = nI mc) (m_X10_module σ) := by
  have hM := h.1.1.2.1
  unfold m_X10_module
  rw [hM.1, if_pos (by rw [show (8 : Int32) = nI 8 from rfl, lt_n (by omega) (by omega)]; exact hmc), st_s, nI_1]
  have hTX : TX (wI σ 29 0 0 (nI (mc + 1))) 0 := h.1.1.1.1.c (fun c h1 h2 => wI_co _ _ _ _ _ (by omega))
  refine ok_b (s_settle (mc := mc + 1) hTX ⟨wI_s _ _ _ _ _, by omega⟩) (fun σ1 h1 => ?_)
  obtain ⟨g1, g2, g3, g4, g5⟩ := h1
  have hE : EDF σ σ1 := (EDF.w σ _ _ (by omega)).tr g1
  refine ok_r ⟨⟨⟨h.1.1.ed hE g3 g4 g5, fun m hm => ?_⟩, fun m h1 h2 => h.2.ed hE m (by omega) h2⟩, ?_⟩
  · have e0 : cntD σ1 0 m = cntD σ 0 m := cntD_c (by rw [g2 26 (by omega) (by omega)]; exact wI_co _ _ _ _ _ (by omega))
    show cntD σ1 0 m ≤ 6
    rw [e0]; exact h.1.2 m hm
  · show σ1.1 29 0 0 - 1 = nI mc
    rw [g4.1, sub_1 (by omega), show mc + 1 - 1 = mc by omega]
