/-! RENEW: a result made; the whole -/
theorem s_built {σ : Sg} {w mc : Nat} {ring : Int32} (hw : w < 2) (hSF : SF σ) (hW : WFN σ mc) (hr : ∀ m, m < 8 → bt ring m = true → m < mc) (hNE : NE8 ring) (hI : IW σ w) :
    ok (fun q => RNF w σ q.1 ∧ (q.2 = 0 ∨ q.2 = 1) ∧ IW q.1 w ∧ SF q.1 ∧ VE (VW q.1 w) (renA (CXW σ w) (VW σ w) ring) ∧ (w = 0 → GL σ → GL q.1)) (m_X9_renew_16 w ring σ 0 (-1)) := by
  obtain ⟨iL, i20, ⟨c, hS, hG⟩, iP, iC, iT⟩ := hI
  have hO := hW.osl
  have hd := iT.dok hW hr
  obtain ⟨r, f1, f2, f3, f4, f5⟩ := q_free hw iL hS iP
  have hl3 := lenP3 hw
  have hl1 := lenP1_le w
  have hPL : PL w r := ⟨f2, by omega⟩
  have hq : ∀ m, m < 8 → ¬ LQ σ w m = r := fun m hm e => f5 (Or.inl ⟨m, hm, e⟩)
  have hk : ∀ k, k < c → ¬ KQ σ w k = r := fun k hk e => f5 (Or.inr ⟨k, hk, e⟩)
  have hV : EOK (nEV ring (σ.1 26 w) (σ.1 7 0) (anW σ w)) := nEV_ok hd
  unfold m_X9_renew_16
  rw [if_pos rfl, f1, bnd_s, chk_e (by rw [decide_eq_true_eq]; exact f4)]
  refine s_made _ _ hw f4 hSF iL hO hd hq (by omega) (fun σc hc => ?_)
  obtain ⟨c1, c2, c3, c4, c5, c6⟩ := hc
  have hSc : SOK σc w c := ⟨by rw [c1.1 19 w (by omega) (by omega) (by omega)]; exact hS.1, hS.2.1, fun k hk => by rw [c1.2.2 1 w (by omega)]; exact hS.2.2 k hk⟩
  refine ok_b (s_put f4 hSc) (fun σd hd' => ?_)
  obtain ⟨d1, c', d2, d3⟩ := hd'
  refine ok_w (s_last (ring := ring) (r := r) (w := w) (σ0 := σd) (Or.inl rfl)) (fun q hq' => ?_)
  obtain ⟨g1, g2⟩ := hq'
  have hi : ∀ x o, ¬ x = 19 → q.1.1 x o = σc.1 x o := fun x o h => by rw [g1.1]; exact d1.1 x o (fun z => h z.1)
  have hj : q.1.2.1 = σc.2.1 := by rw [g1.2.1, d1.2.1]
  have hRN : RNF w σ q.1 := by
    have hr2 : ¬ PL w r → False := fun z => z hPL
    refine ⟨fun x o h1 h2 h3 => ?_, fun x o h1 => ?_, fun x o h1 => ?_⟩
    · rw [g1.1, d1.1 x o (by omega)]
      refine c1.1 x o (by omega) (fun z => h2 ⟨z.1, z.2.1, by rw [z.2.2]; exact hPL⟩) (fun z => h3 ⟨z.1, z.2.1, by omega, by rw [z.2.2]; exact hPL⟩)
    · rw [hj]
      exact c1.2.1 x o (fun z => h1 (by rw [z.2]; exact hPL))
    · rw [g1.2.2.1 x o (by omega), d1.2.2 x o (by omega), c1.2.2 x o (by omega)]
  have hLc : ∀ m, LQ σd w m = LQ σ w m := fun m => by unfold LQ; rw [d1.2.2 0 w (by omega), c1.2.2 0 w (by omega)]
  have hLq : ∀ m, m < 8 → LQ q.1 w m = if bt ring m = true then r else LQ σ w m := fun m hm => by rw [g1.lq hm, hLc]
  -- results other than r stay
  have oth : ∀ p, ¬ p = r → (∀ x, 30 ≤ x → x ≤ 36 → q.1.1 x p = σ.1 x p) ∧ (∀ x, 26 ≤ x → x ≤ 28 → q.1.1 x (p + 2) = σ.1 x (p + 2)) ∧ ∀ x, x ≤ 1 → q.1.2.1 x p = σ.2.1 x p := fun p hp => ⟨fun x h1 h2 => by rw [hi x p (by omega)]; exact c1.1 x p (by omega) (by omega) (by omega), fun x h1 h2 => by rw [hi x _ (by omega)]; exact c1.1 x _ (by omega) (by omega) (by omega), fun x _ => by rw [hj]; exact c1.2.1 x p (by omega)⟩
  have hTw : ∀ x, 26 ≤ x → x ≤ 28 → q.1.1 x w = σ.1 x w := fun x h1 h2 => hRN.t ⟨h1, by omega⟩ hw
  -- the text of r is that of now
  have hTr : (∀ j, j < 128 → q.1.1 26 (r + 2) j = σ.1 26 w j) ∧ (∀ j, j < 40 → q.1.1 27 (r + 2) j = σ.1 27 w j) ∧ ∀ j, j < 8 → q.1.1 28 (r + 2) j = σ.1 28 w j := by
    rw [hi 26 _ (by omega), hi 27 _ (by omega), hi 28 _ (by omega)]
    exact ⟨c3.1, c3.2.1, c3.2.2.1⟩
  have h30 : q.1.1 30 r 0 = ring := by rw [hi 30 r (by omega)]; exact c2
  have hGr : w = 0 → GD q.1 r := fun hw0 => by
    subst hw0
    refine ⟨by rw [h30]; exact hNE, σ, mc, hW, ?_, hSF.aj iL, ?_, ?_⟩
    · rw [h30]
      refine fun m hm hb => ⟨hr m hm hb, hTr.2.2 m hm, fun x hx => hTr.2.1 _ ?_, fun n hn => hTr.1 _ (by omega)⟩
      have : cnt q.1 (r + 2) m = cnt σ 0 m := by unfold cnt; rw [hTr.2.2 m hm]
      have := (iC m hm).1
      omega
    · rw [h30]; intro s hs; rw [hj]; exact c4 s hs
    · rw [h30]; intro i hi2 _; rw [hj]; exact c6 i hi2
  refine ⟨hRN, Or.inl g2, ⟨fun m hm => ?_, fun m hm => ?_, ⟨c', ⟨?_, d2.2.1, ?_⟩, fun k hk' => ?_⟩, fun k hk' => ?_, hRN.ctr hw iC, hRN.tsi hw iT⟩, fun p hp i hi' => ?_, ?_, fun hw0 hgl m hm => ?_⟩
  · rw [g1.2.2.2 m hm]
    by_cases hb : bt ring m = true
    · rw [if_pos hb]; exact ⟨r, rfl, f4⟩
    · rw [if_neg hb, d1.2.2 0 w (by omega), c1.2.2 0 w (by omega)]; exact iL m hm
  · rw [hLq m hm]
    have := hPL.2
    have := i20 m hm
    split <;> omega
  · rw [g1.1]; exact d2.1
  · intro k hk2
    rw [g1.2.2.1 1 w (by omega)]; exact d2.2.2 k hk2
  · have e : KQ q.1 w k = KQ σd w k := by unfold KQ; rw [g1.2.2.1 1 w (by omega)]
    rw [e]
    rcases d3 k hk' with z | ⟨k', k1, k2⟩
    · have e2 : KQ σd w k = r := by unfold KQ; rw [z]; rfl
      rw [e2]
      refine ⟨?_, hPL⟩
      have hw0 : w = 0 := by
        have := d2.2.1
        have h2 : w = 0 ∨ w = 1 := by omega
        rcases h2 with h | h
        · exact h
        · subst h
          have : lenP 1 1 = 0 := rfl
          omega
      exact hGr hw0
    · have e2 : KQ σd w k = KQ σ w k' := by unfold KQ; rw [k2, c1.2.2 1 w (by omega)]
      rw [e2]
      obtain ⟨o1, o2, o3⟩ := oth _ (hk k' k1)
      exact ⟨(hG k' k1).1.c (o1 30 (by omega) (by omega)) o2 o3, (hG k' k1).2⟩
  · rw [g1.2.2.1 3 w (by omega), d1.2.2 3 w (by omega), c1.2.2 3 w (by omega)]; exact iP k hk'
  · by_cases e : p = r
    · subst e
      have ho : ∀ c, 31 ≤ c → c ≤ 36 → mkD (nEV ring (σ.1 26 w) (σ.1 7 0) (anW σ w)) c i = own q.1 p c i := fun c h1 h2 => by
        unfold own
        rw [hi c p (by omega)]
        exact (c5 c i h1 h2 hi').symm
      rw [hj, c6 i hi']
      exact ⟨ansOf_c ho, SFA_c ho ((mkD_s hV nEV_pl).1.sfa hi')⟩
    · obtain ⟨x1, x2⟩ := hSF p hp i hi'
      obtain ⟨o1, o2, o3⟩ := oth p e
      have ho : ∀ c, 31 ≤ c → c ≤ 36 → own σ p c i = own q.1 p c i := fun c h1 h2 => by unfold own; rw [o1 c (by omega) h2]
      rw [o3 1 (by omega)]
      exact ⟨x1.trans (ansOf_c ho), SFA_c ho x2⟩
  · refine view_of hLq h30 (fun m hm _ => ⟨?_, fun x hx => ?_, fun n hn => ?_⟩) (fun s hs => by rw [hj]; exact c4 s hs) (fun j hj2 _ => by rw [hj]; exact c6 j hj2) (fun m hm hb => ?_)
    · rw [hTr.2.2 m hm, hTw 28 (by omega) (by omega)]
    · have e : cnt q.1 w m = cnt σ w m := by unfold cnt; rw [hTw 28 (by omega) (by omega)]
      have := (iC m hm).1
      rw [hTr.2.1 _ (by omega), hTw 27 (by omega) (by omega)]
    · rw [hTr.1 _ (by omega), hTw 26 (by omega) (by omega)]
    · obtain ⟨o1, o2, o3⟩ := oth _ (hq m hm)
      exact ⟨o1 30 (by omega) (by omega), tsR_c (o1 30 (by omega) (by omega)) (fun x h1 h2 => ⟨hTw x h1 h2, o2 x h1 h2⟩), o3⟩
  · have e := hLq m hm
    have hqm := hq m hm
    subst hw0
    rw [e]
    by_cases hb : bt ring m = true
    · rw [if_pos hb]; exact Or.inr (hGr rfl)
    · rw [if_neg hb]
      rcases hgl m hm with z | z
      · exact Or.inl z
      · obtain ⟨o1, o2, o3⟩ := oth _ hqm
        exact Or.inr (z.c (o1 30 (by omega) (by omega)) o2 o3)
theorem s_renew {σ : Sg} {w mc : Nat} {ring : Int32} (hw : w < 2) (hSF : SF σ) (hW : WFN σ mc) (hr : ∀ m, m < 8 → bt ring m = true → m < mc) (hNE : NE8 ring) (hI : IW σ w) :
    ok (fun q => RNF w σ q.1 ∧ (q.2 = 0 ∨ q.2 = 1) ∧ IW q.1 w ∧ SF q.1 ∧ VE (VW q.1 w) (renA (CXW σ w) (VW σ w) ring) ∧ (w = 0 → GL σ → GL q.1)) (m_X9_renew σ w ring) := by
  have hI0 := hI
  obtain ⟨iL, i20, ⟨c, hS, hG⟩, iP, iC, iT⟩ := hI0
  have := hS.2.1
  have := lenP1_le w
  unfold m_X9_renew
  rcases q_place ring iL hW.osl iC hS with e | ⟨k, hk, e, h30, hts, hno⟩
  · rw [e, bnd_s, if_pos rfl]
    exact s_built hw hSF hW hr hNE hI
  · rw [e, bnd_s, if_neg (nI_ne_m1 (by omega))]
    exact s_fetch hw hSF hW hr hI hS hG hk h30 hts hno
