/-! a result begun, the whole -/
/-- a result begun -/
def BEG (σ0 σ : Sg) (r t : Nat) (ring : Int32) : Prop := BF r σ0 σ ∧ σ.1 30 r 0 = ring ∧ TCP σ0 σ (r + 2) t ∧ OWN dfD σ r ∧ (∀ i, i < 128 → σ.2.1 0 r i = -3) ∧ ∀ i, i < 128 → σ.2.1 1 r i = ansOf dfD i
theorem s_begin {σ : Sg} {r t : Nat} {ring : Int32} (ht : ¬ r + 2 = t) : ok (fun σ' => BEG σ σ' r t ring) (m_X5_begin σ r ring t) := by
  unfold m_X5_begin
  rw [st_s]
  refine ok_b (q_copy (σ := wI σ 30 r 0 ring) ht) (fun σa ha => ?_)
  obtain ⟨a1, a2, a3⟩ := ha
  rw [q_fillJ _ _ _ _ (by decide), bnd_s]
  generalize hb : rowJ σa 0 r (fun j => if j < 128 then -3 else σa.2.1 0 r j) = σb
  have b1 : σb.1 = σa.1 := by rw [← hb]; rfl
  have b2 : ∀ c o, ¬ (c = 0 ∧ o = r) → σb.2.1 c o = σa.2.1 c o := fun c o h => by rw [← hb, rowJ_1, if_neg h]
  have b3 : ∀ i, i < 128 → σb.2.1 0 r i = -3 := fun i hi => by rw [← hb, rowJ_1, if_pos ⟨rfl, rfl⟩, if_pos hi]
  have b4 : σb.2.2 = σa.2.2 := by rw [← hb]; rfl
  have hF : BF r σ σb := ⟨fun c o hx => by rw [b1, a2 c o (fun q => hx (Or.inr q)), wI_co _ _ _ _ _ (fun q => hx (Or.inl ⟨by omega, by omega, q.2⟩))], fun c o hx => by rw [b2 c o (fun q => hx ⟨Or.inl q.1, q.2⟩), a3]; rfl, by rw [b4, a3]; rfl⟩
  have key : ∀ n s σ', s ≤ 128 → 128 - s < n → (BF r σ σ' ∧ (∀ c, ¬ (31 ≤ c ∧ c ≤ 36) → σ'.1 c = σb.1 c) ∧ (∀ c i, 31 ≤ c → c ≤ 36 → i < s → σ'.1 c r i = dfD c i) ∧ (∀ i, i < s → σ'.2.1 1 r i = ansOf dfD i) ∧ σ'.2.1 0 r = σb.2.1 0 r) →
      ok (fun σ' => BEG σ σ' r t ring) (m_X5_begin_25 r ring t n σ' (nI s)) := by
    intro n
    induction n with
    | zero => intro s σ' _ h; omega
    | succ n ih =>
      intro s σ' hs hn hI
      obtain ⟨i1, i2, i3, i4, i5⟩ := hI
      rw [m_X5_begin_25]
      simp (disch := omega) only [le_128]
      by_cases e : s = 128
      · subst e
        rw [if_pos (Nat.le_refl _)]
        refine ok_r ⟨i1, ?_, ?_, fun c i h1 h2 h3 => i3 c i h1 h2 h3, fun i hi => by rw [i5]; exact b3 i hi, i4⟩
        · rw [i2 30 (by omega), b1, a2 30 r (by omega), wI_s]
        · unfold TCP at *
          rw [i2 26 (by omega), i2 27 (by omega), i2 28 (by omega), i2 29 (by omega), b1]
          refine ⟨fun j hj => ?_, fun j hj => ?_, fun j hj => ?_, ?_⟩
          · rw [a1.1 j hj, wI_ne _ _ _ _ _ _ (by decide)]
          · rw [a1.2.1 j hj, wI_ne _ _ _ _ _ _ (by decide)]
          · rw [a1.2.2.1 j hj, wI_ne _ _ _ _ _ _ (by decide)]
          · rw [a1.2.2.2, wI_ne _ _ _ _ _ _ (by decide)]
      · rw [if_neg (by omega)]
        refine ok_b (s_unbuilt (σ := σ') (r := r) (s := s) (by omega)) (fun σ1 g => ?_)
        obtain ⟨g1, g2, g3, g4, g5⟩ := g
        rw [nI_1]
        refine ih (s + 1) σ1 (by omega) (by omega) ⟨i1.tr g1, fun c hc => by rw [g3 c hc, i2 c hc], fun c i h1 h2 h3 => ?_, fun i hi => ?_, by rw [g5, i5]⟩
        · rw [g2 c i h1 h2]
          by_cases e2 : i = s
          · rw [if_pos e2]
          · rw [if_neg e2]; exact i3 c i h1 h2 (by omega)
        · rw [g4 i]
          by_cases e2 : i = s
          · rw [if_pos e2]
          · rw [if_neg e2]; exact i4 i (by omega)
  show ok _ (m_X5_begin_25 r ring t 1000 σb (nI 0))
  exact key 1000 0 σb (by omega) (by omega) ⟨hF, fun _ _ => rfl, fun c i _ _ h => absurd h (by omega), fun i h => absurd h (by omega), rfl⟩
