/-! RENEW, the whole -/
theorem view_of {σ σ' : Sg} {w r : Nat} {ring : Int32} (hL : ∀ m, m < 8 → LQ σ' w m = if bt ring m = true then r else LQ σ w m) (h30 : σ'.1 30 r 0 = ring) (hts : tsR σ' w r) (hno : ∀ s, s < 128 → σ'.2.1 0 r s = if wtR σ ring 8 s = true then aToS σ w ring s else -3) (han : ∀ j, j < 128 → inR ring j = true → σ'.2.1 1 r j = (CXW σ w).G ring (anW σ w) j)
    (ho : ∀ m, m < 8 → bt ring m = false → σ'.1 30 (LQ σ w m) = σ.1 30 (LQ σ w m) ∧ (tsR σ' w (LQ σ w m) ↔ tsR σ w (LQ σ w m)) ∧ ∀ c, c ≤ 1 → σ'.2.1 c (LQ σ w m) = σ.2.1 c (LQ σ w m)) : VE (VW σ' w) (renA (CXW σ w) (VW σ w) ring) := by
  refine ⟨fun m hm => ⟨?_, ?_, fun s hs => ?_⟩, fun j hj => ?_⟩
  · show σ'.1 30 (LQ σ' w m) 0 = if bt ring m = true then ring else σ.1 30 (LQ σ w m) 0
    rw [hL m hm]
    by_cases hb : bt ring m = true
    · rw [if_pos hb, if_pos hb]; exact h30
    · rw [if_neg hb, if_neg hb, (ho m hm (by simpa using hb)).1]
  · show tsR σ' w (LQ σ' w m) ↔ if bt ring m = true then True else tsR σ w (LQ σ w m)
    rw [hL m hm]
    by_cases hb : bt ring m = true
    · rw [if_pos hb, if_pos hb]; exact ⟨fun _ => trivial, fun _ => hts⟩
    · rw [if_neg hb, if_neg hb]; exact (ho m hm (by simpa using hb)).2.1
  · show σ'.2.1 0 (LQ σ' w m) s = if bt ring m = true then (if wtR σ ring 8 s = true then aToS σ w ring s else -3) else σ.2.1 0 (LQ σ w m) s
    rw [hL m hm]
    by_cases hb : bt ring m = true
    · rw [if_pos hb, if_pos hb]; exact hno s hs
    · rw [if_neg hb, if_neg hb, (ho m hm (by simpa using hb)).2.2 0 (by omega)]
  · show σ'.2.1 1 (LQ σ' w (j / 16)) j = if bt ring (j / 16) = true then (CXW σ w).G ring (anW σ w) j else σ.2.1 1 (LQ σ w (j / 16)) j
    rw [hL (j / 16) (by omega)]
    by_cases hb : bt ring (j / 16) = true
    · rw [if_pos hb, if_pos hb]; exact han j hj hb
    · rw [if_neg hb, if_neg hb, (ho (j / 16) (by omega) (by simpa using hb)).2.2 1 (by omega)]
theorem tsR_c {σ σ' : Sg} {w r : Nat} (h30 : σ'.1 30 r = σ.1 30 r) (ht : ∀ c, 26 ≤ c → c ≤ 28 → σ'.1 c w = σ.1 c w ∧ σ'.1 c (r + 2) = σ.1 c (r + 2)) : tsR σ' w r ↔ tsR σ w r := by
  unfold tsR SAME cnt
  rw [h30, (ht 26 (by omega) (by omega)).1, (ht 27 (by omega) (by omega)).1, (ht 28 (by omega) (by omega)).1, (ht 26 (by omega) (by omega)).2, (ht 27 (by omega) (by omega)).2, (ht 28 (by omega) (by omega)).2]
theorem LF.lq {w r : Nat} {ring : Int32} {σ σ' : Sg} (h : LF w ring r σ σ') {m : Nat} (hm : m < 8) : LQ σ' w m = if bt ring m = true then r else LQ σ w m := by
  unfold LQ
  rw [h.2.2.2 m hm]
  split <;> rfl
/-- a result fetched -/
theorem s_fetch {σ : Sg} {w mc c k : Nat} {ring : Int32} (hw : w < 2) (hSF : SF σ) (hW : WFN σ mc) (hr : ∀ m, m < 8 → bt ring m = true → m < mc) (hI : IW σ w) (hS : SOK σ w c) (hG : ∀ k, k < c → GD σ (KQ σ w k) ∧ PL w (KQ σ w k)) (hk : k < c) (h30 : σ.1 30 (KQ σ w k) 0 = ring) (hts : tsR σ w (KQ σ w k)) (hno : noR σ w (KQ σ w k)) :
    ok (fun q => RNF w σ q.1 ∧ (q.2 = 0 ∨ q.2 = 1) ∧ IW q.1 w ∧ SF q.1 ∧ VE (VW q.1 w) (renA (CXW σ w) (VW σ w) ring) ∧ (w = 0 → GL σ → GL q.1)) (m_X9_renew_16 w ring σ 1 (nI k)) := by
  have hw0 : w = 0 := by
    have := hS.2.1
    have h2 : w = 0 ∨ w = 1 := by omega
    rcases h2 with h | h
    · exact h
    · subst h
      have : lenP 1 1 = 0 := rfl
      omega
  obtain ⟨iL, i20, _, iP, iC, iT⟩ := hI
  have hO := hW.osl
  have hq := hS.q hk
  have hlen := lenP1_le w
  have hc := hS.2.1
  unfold m_X9_renew_16
  rw [if_neg (by decide), chk_n (by omega) (by omega), cl_nI (by omega), hq.1, bnd_s, chk_e (by rw [decide_eq_true_eq]; exact hq.2)]
  generalize hR : KQ σ w k = R at *
  have hGR := hG k hk
  rw [hR] at hGR
  have hGR0 := hGR.1
  refine ok_b (s_newest hS hk) (fun σa ha => ?_)
  obtain ⟨a1, c', a2, a3⟩ := ha
  refine ok_w (s_last (ring := ring) (r := R) (w := w) (σ0 := σa) (Or.inr rfl)) (fun q hq' => ?_)
  obtain ⟨f1, f2⟩ := hq'
  -- the notes are those of now
  have hAJ := hSF.aj iL
  obtain ⟨⟨_, τ, mt, g1, g2, g3, g4, g5⟩, gP⟩ := hGR
  rw [h30] at g2 g4 g5
  have hRBO : RBO τ mt σ mc ring := fun m hm hb => by
    refine ⟨(g2 m hm hb).1, hr m hm hb, ?_⟩
    have e1 : SAMX σ w σ (R + 2) m := hts m hm (by rw [h30]; exact hb)
    rw [hw0] at e1
    exact ((g2 m hm hb).2.sy).tr e1.sy
  have hwt : ∀ s, s < 128 → wtR τ ring 8 s = wtR σ ring 8 s := fun s hs => sam_wtR g1 hW hRBO hs
  have haT : ∀ s, s < 128 → wtR τ ring 8 s = true → aToS τ 0 ring s = aToS σ w ring s := fun s hs hb => by
    have e1 := g4 s hs
    rw [if_pos hb] at e1
    rcases hno s hs with q | q
    · rw [e1] at q; exact absurd q (aTo_n3 (g1.osl s hs) g3)
    · rw [e1, h30] at q; exact q
  have hEV := nEV_same g1 hW hRBO g3 hAJ haT
  have hno' : ∀ s, s < 128 → σ.2.1 0 R s = if wtR σ ring 8 s = true then aToS σ w ring s else -3 := fun s hs => by
    rw [g4 s hs, hwt s hs]
    by_cases hb : wtR σ ring 8 s = true
    · rw [if_pos hb, if_pos hb, haT s hs (by rw [hwt s hs]; exact hb)]
    · rw [if_neg hb, if_neg hb]
  have hRN : RNF w σ q.1 := ⟨fun x o h1 h2 h3 => by rw [f1.1]; exact a1.1 x o (fun z => h1 ⟨by omega, by omega, z.2⟩), fun x o h1 => by rw [f1.2.1, a1.2.1], fun x o h1 => by rw [f1.2.2.1 x o (fun z => h1 ⟨by omega, z.2⟩), a1.2.2 x o (fun z => h1 ⟨by omega, z.2⟩)]⟩
  have hi : ∀ x o, ¬ x = 19 → q.1.1 x o = σ.1 x o := fun x o h => by rw [f1.1]; exact a1.1 x o (fun z => h z.1)
  have hj : q.1.2.1 = σ.2.1 := by rw [f1.2.1, a1.2.1]
  have hLa : ∀ m, LQ σa w m = LQ σ w m := fun m => by unfold LQ; rw [a1.2.2 0 w (by omega)]
  have hLq : ∀ m, m < 8 → LQ q.1 w m = if bt ring m = true then R else LQ σ w m := fun m hm => by rw [f1.lq hm, hLa]
  refine ⟨hRN, Or.inr f2, ⟨fun m hm => ?_, fun m hm => ?_, ⟨c', ⟨?_, a2.2.1, ?_⟩, fun j hj' => ?_⟩, fun j hj' => ?_, hRN.ctr hw iC, hRN.tsi hw iT⟩, fun r hr i hi' => ?_, ?_, fun _ hgl m hm => ?_⟩
  · rw [f1.2.2.2 m hm]
    by_cases hb : bt ring m = true
    · rw [if_pos hb]; exact ⟨R, rfl, hq.2⟩
    · rw [if_neg hb, a1.2.2 0 w (by omega)]; exact iL m hm
  · rw [hLq m hm]
    have := gP.2
    have := i20 m hm
    split <;> omega
  · rw [f1.1]; exact a2.1
  · intro j hj2
    rw [f1.2.2.1 1 w (by omega)]; exact a2.2.2 j hj2
  · obtain ⟨j', j1, j2⟩ := a3 j hj'
    have e : KQ q.1 w j = KQ σ w j' := by unfold KQ; rw [f1.2.2.1 1 w (by omega), j2]
    rw [e]
    exact ⟨(hG j' j1).1.c (hi 30 _ (by omega)) (fun x h1 h2 => hi x _ (by omega)) (fun x _ => by rw [hj]), (hG j' j1).2⟩
  · rw [f1.2.2.1 3 w (by omega), a1.2.2 3 w (by omega)]; exact iP j hj'
  · obtain ⟨x1, x2⟩ := hSF r hr i hi'
    have e : ∀ c, 31 ≤ c → c ≤ 36 → own σ r c i = own q.1 r c i := fun c h1 h2 => by unfold own; rw [hi c r (by omega)]
    rw [hj]
    exact ⟨x1.trans (ansOf_c e), SFA_c e x2⟩
  · refine view_of hLq (by rw [hi 30 R (by omega)]; exact h30) ((tsR_c (hi 30 R (by omega)) (fun x h1 h2 => ⟨hi x w (by omega), hi x (R + 2) (by omega)⟩)).mpr hts) (fun s hs => by rw [hj]; exact hno' s hs) (fun j hj2 hin => ?_) (fun m hm hb => ⟨hi 30 _ (by omega), tsR_c (hi 30 _ (by omega)) (fun x h1 h2 => ⟨hi x w (by omega), hi x _ (by omega)⟩), fun x _ => by rw [hj]⟩)
    rw [hj, g5 j hj2 hin, hEV]
    show _ = ansOf (mkD (nEV ring (σ.1 26 w) (σ.1 7 0) (anW σ w))) j
    rw [hw0]
  · have e := hLq m hm
    rw [hw0] at e
    rw [e]
    by_cases hb : bt ring m = true
    · rw [if_pos hb]
      exact Or.inr (hGR0.c (hi 30 _ (by omega)) (fun x h1 h2 => hi x _ (by omega)) (fun x _ => by rw [hj]))
    · rw [if_neg hb]
      rcases hgl m hm with z | z
      · exact Or.inl z
      · exact Or.inr (z.c (hi 30 _ (by omega)) (fun x h1 h2 => hi x _ (by omega)) (fun x _ => by rw [hj]))
