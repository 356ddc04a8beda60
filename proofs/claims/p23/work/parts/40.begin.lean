/-! a result begun -/
theorem ansOf_df (i : Nat) : ansOf dfD i = ansV (nI i) 1 1 0 0 := rfl
theorem s_unbuilt {σ : Sg} {r s : Nat} (hs : s < 128) : ok (fun σ' => BF r σ σ' ∧ (∀ c i, 31 ≤ c → c ≤ 36 → σ'.1 c r i = if i = s then dfD c i else σ.1 c r i) ∧ (∀ c, ¬ (31 ≤ c ∧ c ≤ 36) → σ'.1 c = σ.1 c) ∧ (∀ i, σ'.2.1 1 r i = if i = s then ansOf dfD i else σ.2.1 1 r i) ∧ σ'.2.1 0 r = σ.2.1 0 r) (m_X5_setUnbuilt σ r (nI s)) := by
  unfold m_X5_setUnbuilt
  rw [q_of, bnd_s]
  simp (disch := omega) only [chk_n, cl_nI, st_s]
  have ej : ∀ i, (wJ σ 1 r s (ansV (nI s) 1 1 0 0)).2.1 1 r i = if i = s then ansOf dfD i else σ.2.1 1 r i := fun i => by
    rw [wJ_1]
    by_cases e : i = s
    · rw [if_pos ⟨rfl, rfl, e⟩, if_pos e, ansOf_df, e]
    · rw [if_neg (fun q => e q.2.2), if_neg e]
  have eb : BF r σ (wJ σ 1 r s (ansV (nI s) 1 1 0 0)) := BF.j _ _ _ (Or.inr rfl)
  have e0 : (wJ σ 1 r s (ansV (nI s) 1 1 0 0)).2.1 0 r = σ.2.1 0 r := wJ_co _ _ _ _ _ (by omega)
  have ei : (wJ σ 1 r s (ansV (nI s) 1 1 0 0)).1 = σ.1 := rfl
  generalize wJ σ 1 r s (ansV (nI s) 1 1 0 0) = σb at *
  refine ok_r ⟨?_, fun c i h1 h2 => ?_, fun c hc => ?_, ej, e0⟩
  · exact ((((((eb.tr (BF.w _ _ _ (Or.inl ⟨by omega, by omega, rfl⟩))).tr (BF.w _ _ _ (Or.inl ⟨by omega, by omega, rfl⟩))).tr (BF.w _ _ _ (Or.inl ⟨by omega, by omega, rfl⟩))).tr (BF.w _ _ _ (Or.inl ⟨by omega, by omega, rfl⟩))).tr (BF.w _ _ _ (Or.inl ⟨by omega, by omega, rfl⟩))).tr (BF.w _ _ _ (Or.inl ⟨by omega, by omega, rfl⟩)))
  · rw [wI_1, wI_1, wI_1, wI_1, wI_1, wI_1, ei]
    by_cases e : i = s
    · rw [if_pos e]
      have hc : c = 31 ∨ c = 32 ∨ c = 33 ∨ c = 34 ∨ c = 35 ∨ c = 36 := by omega
      unfold dfD
      rcases hc with rfl | rfl | rfl | rfl | rfl | rfl <;> simp only [e, true_and, and_true, if_true, and_self] <;> rfl
    · rw [if_neg e, if_neg (fun q => e q.2.2), if_neg (fun q => e q.2.2), if_neg (fun q => e q.2.2), if_neg (fun q => e q.2.2), if_neg (fun q => e q.2.2), if_neg (fun q => e q.2.2)]
  · funext o i
    rw [wI_1, wI_1, wI_1, wI_1, wI_1, wI_1, ei]
    rw [if_neg (by omega), if_neg (by omega), if_neg (by omega), if_neg (by omega), if_neg (by omega), if_neg (by omega)]
