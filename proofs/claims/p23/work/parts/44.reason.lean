/-! WORKS: which rings are stale -/
def smF (x : Int32) : Nat → Nat → Nat
  | 0, k => k
  | n + 1, k => if bt x k = true then k else smF x n (k + 1)
def sm8 (x : Int32) : Nat := smF x 8 0
theorem smF_of {x : Int32} {j : Nat} (hb : bt x j = true) (hl : ∀ k, k < j → bt x k = false) : ∀ n k, k ≤ j → j < k + n → smF x n k = j
  | 0, k, h1, h2 => absurd h2 (by omega)
  | n + 1, k, h1, h2 => by
    rw [smF]
    by_cases e : k = j
    · rw [e, if_pos hb]
    · rw [hl k (by omega), if_neg Bool.false_ne_true]
      exact smF_of hb hl n (k + 1) (by omega) (by omega)
theorem sm8_of {x : Int32} {j : Nat} (hj : j < 8) (hb : bt x j = true) (hl : ∀ k, k < j → bt x k = false) : sm8 x = j := smF_of hb hl 8 0 (by omega) (by omega)
/-- a ring has a module -/
def NE8 (x : Int32) : Prop := ∃ k, k < 8 ∧ bt x k = true
theorem q_stand (σ : Sg) {x : Int32} (h : NE8 x) : m_X6_smallestOf σ x = some (nI (sm8 x)) ∧ sm8 x < 8 ∧ bt x (sm8 x) = true := by
  obtain ⟨k, hk, hb⟩ := h
  rcases q_small σ x with ⟨_, h2⟩ | ⟨j, hj, e, hb2, hl⟩
  · rw [h2 k hk] at hb; cases hb
  · rw [sm8_of hj hb2 hl]; exact ⟨e, hj, hb2⟩
def modW (σ : Sg) (w m : Nat) : Int32 := σ.1 30 (LQ σ w m) 0
/-- a result's texts are those of now; its answers -/
def tsR (σ : Sg) (w r : Nat) : Prop := ∀ m, m < 8 → bt (σ.1 30 r 0) m = true → SAME σ w (r + 2) m
def noR (σ : Sg) (w r : Nat) : Prop := ∀ s, s < 128 → σ.2.1 0 r s = -3 ∨ σ.2.1 0 r s = aToS σ w (σ.1 30 r 0) s
def CTR (σ : Sg) (w : Nat) : Prop := ∀ m, m < 8 → cnt σ w m ≤ 5 ∧ σ.1 28 w m = nI (cnt σ w m)
theorem q_otherText {σ : Sg} {w r : Nat} (hC : CTR σ w) : ∃ v, m_X9_firstOtherText σ w r = some v ∧ (v = -1 ↔ tsR σ w r) := by
  have key : ∀ n m, m ≤ 8 → 8 - m < n → (∀ i, i < m → bt (σ.1 30 r 0) i = true → SAME σ w (r + 2) i) → ∃ v, m_X9_firstOtherText_2 σ w r n (nI m) = some v ∧ (v = -1 ↔ tsR σ w r) := by
    intro n
    induction n with
    | zero => intro m _ h; omega
    | succ n ih =>
      intro m hm hn hp
      rw [m_X9_firstOtherText_2]
      by_cases e : m = 8
      · subst e
        rw [if_pos (by decide)]
        exact ⟨-1, rfl, ⟨(fun _ => hp), fun _ => rfl⟩⟩
      · rw [if_neg (by rw [le_8 (by omega)]; omega), q_has _ _ (by omega), bnd_s, ite_01]
        by_cases hb : bt (σ.1 30 r 0) m = true
        · rw [if_pos hb]
          obtain ⟨v, v1, v2, v3⟩ := q_same (σ := σ) (t := w) (t' := r + 2) (m := m) (by omega) (hC m (by omega))
          rw [v1, bnd_s]
          by_cases h0 : v = 0
          · rw [if_pos h0]
            exact ⟨nI m, rfl, ⟨(fun q => absurd q (nI_ne_m1 (by omega))), fun q => absurd h0 (v3.mpr (q m (by omega) hb))⟩⟩
          · rw [if_neg h0, nI_1]
            refine ih (m + 1) (by omega) (by omega) (fun i hi hb2 => ?_)
            by_cases e2 : i = m
            · rw [e2]; exact v3.mp h0
            · exact hp i (by omega) hb2
        · rw [if_neg hb, nI_1]
          refine ih (m + 1) (by omega) (by omega) (fun i hi hb2 => ?_)
          by_cases e2 : i = m
          · rw [e2] at hb2; exact absurd hb2 hb
          · exact hp i (by omega) hb2
  unfold m_X9_firstOtherText
  show ∃ v, m_X9_firstOtherText_2 σ w r 1000 (nI 0) = some v ∧ _
  exact key 1000 0 (by omega) (by omega) (fun i hi => absurd hi (by omega))
theorem q_otherAnswer {σ : Sg} {w r : Nat} (hL : LOK σ w) (hO : OSL σ) : ∃ v, m_X9_firstOtherAnswer σ w r = some v ∧ (v = -1 ↔ noR σ w r) := by
  have key : ∀ n s, s ≤ 128 → 128 - s < n → (∀ i, i < s → σ.2.1 0 r i = -3 ∨ σ.2.1 0 r i = aToS σ w (σ.1 30 r 0) i) → ∃ v, m_X9_firstOtherAnswer_2 σ w r n (nI s) = some v ∧ (v = -1 ↔ noR σ w r) := by
    intro n
    induction n with
    | zero => intro m _ h; omega
    | succ n ih =>
      intro s hs hn hp
      rw [m_X9_firstOtherAnswer_2]
      by_cases e : s = 128
      · subst e
        rw [if_pos (by decide)]
        exact ⟨-1, rfl, ⟨(fun _ => hp), fun _ => rfl⟩⟩
      · have go : (σ.2.1 0 r s = -3 ∨ σ.2.1 0 r s = aToS σ w (σ.1 30 r 0) s) → ∃ v, m_X9_firstOtherAnswer_2 σ w r n (nI s + 1) = some v ∧ (v = -1 ↔ noR σ w r) := fun q => by
          rw [nI_1]
          refine ih (s + 1) (by omega) (by omega) (fun i hi => ?_)
          by_cases e2 : i = s
          · rw [e2]; exact q
          · exact hp i (by omega)
        rw [if_neg (by rw [le_128 (by omega)]; omega), chk_n (by omega) (by omega), cl_nI (by omega)]
        by_cases h3 : σ.2.1 0 r s = -3
        · rw [if_pos ((lg_cmp_eq _ _).mpr h3)]
          exact go (Or.inl h3)
        · rw [if_neg (fun q => h3 ((lg_cmp_eq _ _).mp q)), chk_n (by omega) (by omega), q_answerTo _ hL hO (by omega), bnd_s]
          by_cases h4 : σ.2.1 0 r s = aToS σ w (σ.1 30 r 0) s
          · rw [if_pos ((lg_cmp_eq _ _).mpr h4)]
            exact go (Or.inr h4)
          · rw [if_neg (fun q => h4 ((lg_cmp_eq _ _).mp q))]
            exact ⟨nI s, rfl, ⟨(fun q => absurd q (nI_ne_m1 (by omega))), fun q => by
              rcases q s (by omega) with h | h
              · exact absurd h h3
              · exact absurd h h4⟩⟩
  unfold m_X9_firstOtherAnswer
  show ∃ v, m_X9_firstOtherAnswer_2 σ w r 1000 (nI 0) = some v ∧ _
  exact key 1000 0 (by omega) (by omega) (fun i hi => absurd hi (by omega))
/-- nothing of a ring is stale -/
def frR (σ : Sg) (w : Nat) (ring : Int32) : Prop := (∀ m, m < 8 → bt ring m = true → ¬ modW σ w m = 0) ∧ (∀ m, m < 8 → bt ring m = true → modW σ w m = ring) ∧ tsR σ w (LQ σ w (sm8 ring)) ∧ noR σ w (LQ σ w (sm8 ring))
theorem q_unbuilt {σ : Sg} {w : Nat} (ring : Int32) (hL : LOK σ w) : ∃ v, m_X9_firstUnbuilt σ w ring = some v ∧ (v = -1 ↔ ∀ m, m < 8 → bt ring m = true → ¬ modW σ w m = 0) := by
  have key : ∀ n m, m ≤ 8 → 8 - m < n → (∀ i, i < m → bt ring i = true → ¬ modW σ w i = 0) → ∃ v, m_X9_firstUnbuilt_2 σ w ring n (nI m) = some v ∧ (v = -1 ↔ ∀ m, m < 8 → bt ring m = true → ¬ modW σ w m = 0) := by
    intro n
    induction n with
    | zero => intro m _ h; omega
    | succ n ih =>
      intro m hm hn hp
      rw [m_X9_firstUnbuilt_2]
      by_cases e : m = 8
      · subst e
        rw [if_pos (by decide)]
        exact ⟨-1, rfl, ⟨(fun _ => hp), fun _ => rfl⟩⟩
      · have go : (bt ring m = true → ¬ modW σ w m = 0) → ∃ v, m_X9_firstUnbuilt_2 σ w ring n (nI m + 1) = some v ∧ (v = -1 ↔ ∀ m, m < 8 → bt ring m = true → ¬ modW σ w m = 0) := fun q => by
          rw [nI_1]
          refine ih (m + 1) (by omega) (by omega) (fun i hi hb => ?_)
          by_cases e2 : i = m
          · rw [e2]; exact q (by rw [← e2]; exact hb)
          · exact hp i (by omega) hb
        rw [if_neg (by rw [le_8 (by omega)]; omega), q_has _ _ (by omega), bnd_s, ite_01]
        by_cases hb : bt ring m = true
        · rw [if_pos hb, lenP0, chk_n (by omega) (by omega), cl_nI (by omega), (hL.q (by omega)).1, bnd_s, chk_e (by rw [decide_eq_true_eq]; exact (hL.q (by omega)).2)]
          by_cases h0 : σ.1 30 (LQ σ w m) 0 = 0
          · rw [if_pos h0]
            exact ⟨nI m, rfl, ⟨(fun q => absurd q (nI_ne_m1 (by omega))), fun q => absurd h0 (q m (by omega) hb)⟩⟩
          · rw [if_neg h0]
            exact go (fun _ => h0)
        · rw [if_neg hb]
          exact go (fun q => absurd q hb)
  unfold m_X9_firstUnbuilt
  show ∃ v, m_X9_firstUnbuilt_2 σ w ring 1000 (nI 0) = some v ∧ _
  exact key 1000 0 (by omega) (by omega) (fun i hi => absurd hi (by omega))
theorem q_inOther {σ : Sg} {w : Nat} (ring : Int32) (hL : LOK σ w) : ∃ v, m_X9_wasInOtherRing σ w ring = some v ∧ (v = 0 ↔ ∀ m, m < 8 → bt ring m = true → modW σ w m = ring) := by
  have key : ∀ n m, m ≤ 8 → 8 - m < n → (∀ i, i < m → bt ring i = true → modW σ w i = ring) → ∃ v, m_X9_wasInOtherRing_2 σ w ring n (nI m) = some v ∧ (v = 0 ↔ ∀ m, m < 8 → bt ring m = true → modW σ w m = ring) := by
    intro n
    induction n with
    | zero => intro m _ h; omega
    | succ n ih =>
      intro m hm hn hp
      rw [m_X9_wasInOtherRing_2]
      by_cases e : m = 8
      · subst e
        rw [if_pos (by decide)]
        exact ⟨0, rfl, ⟨(fun _ => hp), fun _ => rfl⟩⟩
      · have go : (bt ring m = true → modW σ w m = ring) → ∃ v, m_X9_wasInOtherRing_2 σ w ring n (nI m + 1) = some v ∧ (v = 0 ↔ ∀ m, m < 8 → bt ring m = true → modW σ w m = ring) := fun q => by
          rw [nI_1]
          refine ih (m + 1) (by omega) (by omega) (fun i hi hb => ?_)
          by_cases e2 : i = m
          · rw [e2]; exact q (by rw [← e2]; exact hb)
          · exact hp i (by omega) hb
        rw [if_neg (by rw [le_8 (by omega)]; omega), q_has _ _ (by omega), bnd_s, ite_01]
        by_cases hb : bt ring m = true
        · rw [if_pos hb, lenP0, chk_n (by omega) (by omega), cl_nI (by omega), (hL.q (by omega)).1, bnd_s, chk_e (by rw [decide_eq_true_eq]; exact (hL.q (by omega)).2)]
          by_cases h0 : σ.1 30 (LQ σ w m) 0 = ring
          · rw [if_pos h0]
            exact go (fun _ => h0)
          · rw [if_neg h0]
            exact ⟨1, rfl, ⟨(fun q => absurd q (by decide)), fun q => absurd (q m (by omega) hb) h0⟩⟩
        · rw [if_neg hb]
          exact go (fun q => absurd q hb)
  unfold m_X9_wasInOtherRing
  show ∃ v, m_X9_wasInOtherRing_2 σ w ring 1000 (nI 0) = some v ∧ _
  exact key 1000 0 (by omega) (by omega) (fun i hi => absurd hi (by omega))
theorem q_resultOf {σ : Sg} {w : Nat} {ring : Int32} (hL : LOK σ w) (hN : NE8 ring) : m_X9_resultOf σ w ring = some (LQ σ w (sm8 ring)) := by
  obtain ⟨h1, h2, h3⟩ := q_stand σ hN
  unfold m_X9_resultOf
  rw [h1, bnd_s, if_neg (nI_ne_m1 (by omega)), lenP0, chk_n (by omega) (by omega), cl_nI (by omega), (hL.q h2).1, bnd_s, chk_e (by rw [decide_eq_true_eq]; exact (hL.q h2).2)]
theorem q_reason {σ : Sg} {w : Nat} {ring : Int32} (hL : LOK σ w) (hO : OSL σ) (hC : CTR σ w) (hN : NE8 ring) : ∃ v, m_X9_reasonOf σ w ring = some v ∧ (v = 0 ↔ frR σ w ring) := by
  obtain ⟨v1, a1, b1⟩ := q_unbuilt ring hL
  obtain ⟨v2, a2, b2⟩ := q_inOther ring hL
  obtain ⟨v3, a3, b3⟩ := q_otherText (σ := σ) (w := w) (r := LQ σ w (sm8 ring)) hC
  obtain ⟨v4, a4, b4⟩ := q_otherAnswer (σ := σ) (w := w) (r := LQ σ w (sm8 ring)) hL hO
  unfold m_X9_reasonOf
  rw [a1, bnd_s]
  by_cases h1 : v1 = -1
  · rw [if_pos h1, a2, bnd_s]
    by_cases h2 : v2 = 0
    · rw [if_pos h2, q_resultOf hL hN, bnd_s, chk_e (by rw [decide_eq_true_eq]; exact (hL.q (q_stand σ hN).2.1).2), a3, bnd_s]
      by_cases h3 : v3 = -1
      · rw [if_pos h3, a4, bnd_s]
        by_cases h4 : v4 = -1
        · rw [if_pos h4]
          exact ⟨0, rfl, ⟨(fun _ => ⟨b1.mp h1, b2.mp h2, b3.mp h3, b4.mp h4⟩), fun _ => rfl⟩⟩
        · rw [if_neg h4]
          exact ⟨4, rfl, ⟨(fun q => absurd q (by decide)), fun q => absurd (b4.mpr q.2.2.2) h4⟩⟩
      · rw [if_neg h3]
        exact ⟨3, rfl, ⟨(fun q => absurd q (by decide)), fun q => absurd (b3.mpr q.2.2.1) h3⟩⟩
    · rw [if_neg h2]
      exact ⟨2, rfl, ⟨(fun q => absurd q (by decide)), fun q => absurd (b2.mpr q.2.1) h2⟩⟩
  · rw [if_neg h1]
    exact ⟨1, rfl, ⟨(fun q => absurd q (by decide)), fun q => absurd (b1.mpr q.1) h1⟩⟩
