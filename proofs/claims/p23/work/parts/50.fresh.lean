/-! A FRESH RESULT -/
/-- what a maker is given in the place of a fresh result -/
theorem er0_of {σ τ : Sg} {w r : Nat} {ring : Int32} (hSF : SF σ) (hL : LOK σ w) (h30 : τ.1 30 r 0 = ring) (hT : ∀ s, s < 128 → τ.1 26 (r + 2) s = σ.1 26 w s) (h7 : τ.1 7 = σ.1 7) (hP : τ.2.2 = σ.2.2) (hq : ∀ m, m < 8 → ¬ LQ σ w m = r) (hi : ∀ c q, 31 ≤ c → c ≤ 36 → ¬ q = r → τ.1 c q = σ.1 c q) : ER0 (nEV ring (σ.1 26 w) (σ.1 7 0) (anW σ w)) τ w r := by
  refine ⟨h30, fun s hs hr => ?_, fun s side hs hm hsd h0 => ?_, fun m hm _ => ?_, fun s side j hs hm hsd hj hTe hr q hq' => ?_⟩
  · rw [hT s hs]
    exact (cdec_in hs hr).symm
  · rw [h7]
    exact (ifP_t ⟨s, side, hs, hm, hsd, h0, rfl⟩).symm
  · exact ⟨LQ σ w m, (hL.q hm).2, by rw [hP]; exact (hL.q hm).1, hq m hm⟩
  · have ht := nEV_tg hs hm hsd hj hTe hr
    have e1 : (nEV ring (σ.1 26 w) (σ.1 7 0) (anW σ w)).XR j = if ab (anW σ w j) 8 = true then 0 else 1 := ifP_t ht
    have e2 : (nEV ring (σ.1 26 w) (σ.1 7 0) (anW σ w)).XF j = if ab (anW σ w j) 9 = true then 1 else 0 := ifP_t ht
    have e3 : (nEV ring (σ.1 26 w) (σ.1 7 0) (anW σ w)).XL j = if ab (anW σ w j) 10 = true ∨ (ab (anW σ w j) 8 = true ∧ ab (anW σ w j) 9 = false) then 1 else 0 := ifP_t ht
    have e4 : (nEV ring (σ.1 26 w) (σ.1 7 0) (anW σ w)).XN j = numA (anW σ w j) := ifP_t ht
    have hj8 : j / 16 < 8 := by omega
    have eq : q = LQ σ w (j / 16) := by
      have := (hL.q hj8).1
      rw [hP, this] at hq'
      exact (Option.some.inj hq').symm
    subst eq
    obtain ⟨hA, hS1, hS2, hS3, hS4, hS5, _⟩ := hSF _ (hL.q hj8).2 j hj
    have hA' : anW σ w j = ansOf (own σ (LQ σ w (j / 16))) j := hA
    rw [e1, e2, e3, e4, hA', ansOf_8 _ hj, ansOf_9 _ hj, ansOf_10 _ hj, ansOf_n _ hj]
    have ho : ∀ c, own σ (LQ σ w (j / 16)) c j = σ.1 c (LQ σ w (j / 16)) j := fun _ => rfl
    simp only [ho] at hS1 hS2 hS3 hS4 hS5
    simp only [ho]
    rw [hi 32 _ (by omega) (by omega) (hq _ hj8), hi 31 _ (by omega) (by omega) (hq _ hj8), hi 33 _ (by omega) (by omega) (hq _ hj8), hi 34 _ (by omega) (by omega) (hq _ hj8)]
    generalize σ.1 31 (LQ σ w (j / 16)) j = a at *
    generalize σ.1 32 (LQ σ w (j / 16)) j = b at *
    generalize σ.1 33 (LQ σ w (j / 16)) j = c at *
    generalize σ.1 34 (LQ σ w (j / 16)) j = d at *
    have h01 : ¬ (1 : Int32) = 0 := by decide
    refine ⟨?_, ?_, ?_, fun hx => ?_⟩
    · rcases hS1 with x | x
      · simp [x]
      · simp [x]
    · by_cases x : a = 0
      · simp [x]
      · simp [x]
    · rcases hS3 with x | x
      · by_cases ya : a = 0
        · rcases hS1 with yb | yb
          · have := hS5 yb ya; rw [x] at this; exact absurd this.symm h01
          · simp [x, yb]
        · simp [x, ya]
      · have ya : a = 0 := (hS4 (by rw [x]; exact h01)).1
        rcases hS1 with yb | yb
        · simp [x, ya, yb]
        · simp [x, ya, yb]
    · by_cases x : c = 0
      · exfalso
        by_cases ya : a = 0
        · rcases hS1 with yb | yb
          · have := hS5 yb ya; rw [x] at this; exact absurd this.symm h01
          · simp [x, yb] at hx
        · simp [x, ya] at hx
      · rw [if_neg x]
/-- where making a fresh result may change things -/
def FRS (w r : Nat) (σ σ' : Sg) : Prop := (∀ c o, ¬ (20 ≤ c ∧ c ≤ 25 ∧ o = w) → ¬ (30 ≤ c ∧ c ≤ 36 ∧ o = r) → ¬ (26 ≤ c ∧ c ≤ 29 ∧ o = r + 2) → σ'.1 c o = σ.1 c o) ∧ (∀ c o, ¬ (c ≤ 1 ∧ o = r) → σ'.2.1 c o = σ.2.1 c o) ∧ ∀ c o, ¬ (c = 2 ∧ o = w) → σ'.2.2 c o = σ.2.2 c o
/-- a result as it is made under a state -/
def MADE (σ : Sg) (w r : Nat) (ring : Int32) (σ' : Sg) : Prop := FRS w r σ σ' ∧ σ'.1 30 r 0 = ring ∧ TCP σ σ' (r + 2) w ∧ (∀ s, s < 128 → σ'.2.1 0 r s = if wtR σ ring 8 s = true then aToS σ w ring s else -3) ∧ OWN (mkD (nEV ring (σ.1 26 w) (σ.1 7 0) (anW σ w))) σ' r ∧ ∀ i, i < 128 → σ'.2.1 1 r i = ansOf (mkD (nEV ring (σ.1 26 w) (σ.1 7 0) (anW σ w))) i
theorem s_made {σ : Sg} {w r : Nat} {ring : Int32} (k : Sg → Option (Sg × Int32)) (Q : Sg × Int32 → Prop) (hw : w < 2) (hr : r < 30) (hSF : SF σ) (hL : LOK σ w) (hO : OSL σ) (hd : DOK ring (σ.1 26 w) (σ.1 7 0)) (hq : ∀ m, m < 8 → ¬ LQ σ w m = r) (hwr : ¬ w = r + 2) (hk : ∀ σ', MADE σ w r ring σ' → ok Q (k σ')) :
    ok Q (bnd (m_X5_begin σ r ring w) (fun σ109 => bnd (m_X9_noteAnswers σ109 w r) (fun σ112 => bnd (m_X3_makeStates σ112 w r) k))) := by
  refine ok_b (s_begin (fun e => hwr e.symm)) (fun σa ha => ?_)
  obtain ⟨a1, a2, a3, a4, a5, a6⟩ := ha
  have La : LOK σa w := fun m hm => by rw [a1.2.2]; exact hL m hm
  have Oa : OSL σa := fun s hs => by rw [a1.1 6 0 (by omega)]; exact hO s hs
  have LQa : ∀ m, LQ σa w m = LQ σ w m := fun m => by unfold LQ; rw [a1.2.2]
  refine ok_b (s_note La Oa a2) (fun σb hb => ?_)
  obtain ⟨b1, b2⟩ := hb
  have hV : EOK (nEV ring (σ.1 26 w) (σ.1 7 0) (anW σ w)) := nEV_ok hd
  have hE : ER0 (nEV ring (σ.1 26 w) (σ.1 7 0) (anW σ w)) σb w r := by
    refine er0_of hSF hL (by rw [b1.1]; exact a2) (fun s hs => by rw [b1.1]; exact a3.1 s hs) (by rw [b1.1]; funext o; exact a1.1 7 o (by omega)) (by rw [b1.2.2, a1.2.2]) hq (fun c q h1 h2 h3 => by rw [b1.1]; exact a1.1 c q (by omega))
  refine ok_b ((mkD_s hV nEV_pl).2 σb w r hw hr hE (fun c i h1 h2 h3 => by rw [b1.1]; exact a4 c i h1 h2 h3) (fun i hi => by rw [b1.2.1 1 r (by omega)]; exact a6 i hi)) (fun σc hc => ?_)
  obtain ⟨c1, c2, c3⟩ := hc
  refine hk σc ⟨⟨fun c o h1 h2 h3 => ?_, fun c o h1 => ?_, fun c o h1 => ?_⟩, ?_, ?_, fun s hs => ?_, c2, c3⟩
  · rw [c1.1 c o (by omega), b1.1, a1.1 c o (by omega)]
  · rw [c1.2.1 c o (by omega), b1.2.1 c o (by omega), a1.2.1 c o (by omega)]
  · rw [c1.2.2 c o h1, b1.2.2, a1.2.2]
  · rw [c1.1 30 r (by omega), b1.1]; exact a2
  · have e : ∀ c, 26 ≤ c → c ≤ 29 → σc.1 c (r + 2) = σa.1 c (r + 2) := fun c h1 h2 => by rw [c1.1 c (r + 2) (by omega), b1.1]
    refine ⟨fun j hj => ?_, fun j hj => ?_, fun j hj => ?_, ?_⟩
    · rw [e 26 (by omega) (by omega)]; exact a3.1 j hj
    · rw [e 27 (by omega) (by omega)]; exact a3.2.1 j hj
    · rw [e 28 (by omega) (by omega)]; exact a3.2.2.1 j hj
    · rw [e 29 (by omega) (by omega)]; exact a3.2.2.2
  · have ew : wtR σa ring 8 s = wtR σ ring 8 s := by
      apply Bool.eq_iff_iff.mpr
      rw [wtR_t, wtR_t]
      unfold wtB
      rw [a1.1 8 0 (by omega)]
    have ea : aToS σa w ring s = aToS σ w ring s := by
      show aToA (σa.1 6 0) (anW σa w) ring s = aToA (σ.1 6 0) (anW σ w) ring s
      rw [a1.1 6 0 (by omega)]
      refine aToA_c (hO s hs) (fun j hj _ _ => ?_)
      unfold anW
      rw [LQa, a1.2.1 1 _ (fun q => hq (j / 16) (by omega) q.2)]
    rw [c1.2.1 0 r (by omega), b2 s hs, ew, ea, a5 s hs]
