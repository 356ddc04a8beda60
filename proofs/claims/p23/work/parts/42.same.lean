/-! texts the same -/
/-- texts the same -/
def SAME (σ : Sg) (t t' m : Nat) : Prop := σ.1 28 t m = σ.1 28 t' m ∧ (∀ k, k < cnt σ t m → σ.1 27 t (m * 5 + k) = σ.1 27 t' (m * 5 + k)) ∧ ∀ n, n < 16 → σ.1 26 t (m * 16 + n) = σ.1 26 t' (m * 16 + n)
theorem q_same {σ : Sg} {t t' m : Nat} (hm : m < 8) (hc : cnt σ t m ≤ 5 ∧ σ.1 28 t m = nI (cnt σ t m)) : ∃ v : Int32, m_X8_isSame σ t t' (nI m) = some v ∧ (v = 0 ∨ v = 1) ∧ (¬ v = 0 ↔ SAME σ t t' m) := by
  obtain ⟨h5, he⟩ := hc
  have k2 : ∀ n s, s ≤ 16 → 16 - s < n → (∀ j, j < s → σ.1 26 t (m * 16 + j) = σ.1 26 t' (m * 16 + j)) → ∃ v : Int32, m_X8_isSame_57 σ t t' (nI m) n (nI (m * 16 + s)) = some v ∧ (v = 0 ∨ v = 1) ∧ (¬ v = 0 ↔ ∀ j, j < 16 → σ.1 26 t (m * 16 + j) = σ.1 26 t' (m * 16 + j)) := by
    intro n
    induction n with
    | zero => intro s _ h; omega
    | succ n ih =>
      intro s hs hn hp
      rw [m_X8_isSame_57, mu16, show nI (m * 16) + (16 : Int32) = nI (m * 16 + 16) from nI_add _ 16]
      simp (disch := omega) only [le_n]
      by_cases e : s = 16
      · subst e
        rw [if_pos (Nat.le_refl _)]
        exact ⟨1, rfl, Or.inr rfl, fun _ => hp, fun _ => by decide⟩
      · rw [if_neg (by omega), chk_n (by omega) (by omega), chk_n (by omega) (by omega), cl_nI (by omega)]
        by_cases h : σ.1 26 t (m * 16 + s) = σ.1 26 t' (m * 16 + s)
        · rw [if_pos h, nI_1]
          exact ih (s + 1) (by omega) (by omega) (fun j hj => by
            by_cases e2 : j = s
            · rw [e2]; exact h
            · exact hp j (by omega))
        · rw [if_neg h]
          exact ⟨0, rfl, Or.inl rfl, fun q => absurd rfl q, fun q => absurd (q s (by omega)) h⟩
  have k1 : ∀ n k, k ≤ cnt σ t m → cnt σ t m - k < n → (∀ j, j < k → σ.1 27 t (m * 5 + j) = σ.1 27 t' (m * 5 + j)) → ∃ v : Int32, m_X8_isSame_19 σ t t' (nI m) n (nI k) = some v ∧ (v = 0 ∨ v = 1) ∧ (¬ v = 0 ↔ (∀ j, j < cnt σ t m → σ.1 27 t (m * 5 + j) = σ.1 27 t' (m * 5 + j)) ∧ ∀ j, j < 16 → σ.1 26 t (m * 16 + j) = σ.1 26 t' (m * 16 + j)) := by
    intro n
    induction n with
    | zero => intro k _ h; omega
    | succ n ih =>
      intro k hk hn hp
      rw [m_X8_isSame_19, chk_n (by omega) (by omega), cl_nI (by omega), he]
      simp (disch := omega) only [le_n]
      by_cases e : k = cnt σ t m
      · rw [if_pos (by omega), mu16]
        obtain ⟨v, v1, v2, v3⟩ := k2 1000 0 (by omega) (by omega) (fun j hj => absurd hj (by omega))
        exact ⟨v, v1, v2, v3.trans ⟨fun q => ⟨fun j hj => hp j (by omega), q⟩, fun q => q.2⟩⟩
      · rw [if_neg (by omega), q_imp _ _ hm (by omega), bnd_s, q_imp _ _ hm (by omega), bnd_s]
        by_cases h : σ.1 27 t (m * 5 + k) = σ.1 27 t' (m * 5 + k)
        · rw [if_pos h, nI_1]
          exact ih (k + 1) (by omega) (by omega) (fun j hj => by
            by_cases e2 : j = k
            · rw [e2]; exact h
            · exact hp j (by omega))
        · rw [if_neg h]
          exact ⟨0, rfl, Or.inl rfl, fun q => absurd rfl q, fun q => absurd (q.1 k (by omega)) h⟩
  unfold m_X8_isSame SAME
  rw [chk_n (by omega) (by omega), chk_n (by omega) (by omega), cl_nI (by omega)]
  by_cases h : σ.1 28 t m = σ.1 28 t' m
  · rw [if_pos h]
    obtain ⟨v, v1, v2, v3⟩ := k1 1000 0 (by omega) (by omega) (fun j hj => absurd hj (by omega))
    exact ⟨v, v1, v2, v3.trans ⟨fun q => ⟨h, q⟩, fun q => q.2⟩⟩
  · rw [if_neg h]
    exact ⟨0, rfl, Or.inl rfl, fun q => absurd rfl q, fun q => absurd q.1 h⟩
