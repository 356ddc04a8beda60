/-! RINGS: leaning, reach, rings, their order -/
/-- behind settleLeaning: reach is made of leaning, and transitive -/
def RT (σ : Sg) (mc : Nat) : Prop :=
  (∀ m f, m < mc → f < 32 → bt (σ.1 14 0 m) f = true → f < mc) ∧
  (∀ m f, LO σ mc m f → bt (σ.1 14 0 m) f = true) ∧
  ∀ a b c, a < mc → b < mc → c < mc → bt (σ.1 14 0 a) b = true → bt (σ.1 14 0 b) c = true → bt (σ.1 14 0 a) c = true
theorem LO.c {σ σ' : Sg} {mc m f : Nat} (h27 : σ'.1 27 = σ.1 27) (h28 : σ'.1 28 = σ.1 28) : LO σ' mc m f ↔ LO σ mc m f := by
  unfold LO cnt imp; rw [h27, h28]
theorem l_round {σ : Sg} {mc : Nat} (hM : MC σ mc) : ∀ (k : Nat) (R : Nat → Nat → Bool) (k97 : Sg → Int32 → Option Sg), k < mc → (∀ σ1, (FR [13, 14] σ σ1 ∧ ∀ a f, a < mc → f < 32 → bt (σ1.1 14 0 a) f = (R a f || (R a k && R k f))) → ok (fun σ1 => FR [13, 14] σ σ1 ∧ RT σ1 mc) (k97 σ1 (nI (k + 1)))) →
      ∀ n j σ', j ≤ mc → mc - j < n → (FR [13, 14] σ σ' ∧ ∀ a f, a < mc → f < 32 → bt (σ'.1 14 0 a) f = if a < j then (R a f || (R a k && R k f)) else R a f) → ok (fun σ1 => FR [13, 14] σ σ1 ∧ RT σ1 mc) (m_X6_settleLeaning_110 k97 n σ' (nI k) (nI j)) := by
  obtain ⟨hM1, hM2⟩ := hM
  intro k R k97 hk hkk n
  induction n with
  | zero => intro j σ' _ h; omega
  | succ n ih =>
    intro j σ' hj hn hS
    obtain ⟨hF, hb⟩ := hS
    rw [m_X6_settleLeaning_110, show σ'.1 29 0 0 = nI mc from by rw [hF.1 29 (by decide)]; exact hM1]
    simp (disch := omega) only [le_n]
    by_cases e : j = mc
    · subst e
      rw [if_pos (Nat.le_refl _), nI_1]
      exact hkk σ' ⟨hF, fun a f ha hf => by rw [hb a f ha hf, if_pos ha]⟩
    · rw [if_neg (by omega), chk_n (by omega) (by omega), cl_nI (by omega), q_has _ _ (by omega), bnd_s, ite_01, nI_1]
      have hjk : bt (σ'.1 14 0 j) k = R j k := by rw [hb j k (by omega) (by omega), if_neg (by omega)]
      rw [hjk]
      by_cases hR : R j k = true
      · rw [if_pos hR, chk_n (by omega) (by omega), chk_n (by omega) (by omega), chk_n (by omega) (by omega), cl_nI (by omega)]
        unfold st
        refine ih (j + 1) _ (by omega) (by omega) ⟨hF.tr (FR.w _ 0 _ _ (by decide)), fun a f ha hf => ?_⟩
        rw [wI_1]
        by_cases e2 : a = j
        · subst e2
          rw [if_pos ⟨rfl, rfl, rfl⟩, b_or, hb a f ha hf, hb k f hk hf, if_neg (Nat.lt_irrefl a), if_pos (Nat.lt_succ_self a), hR]
          by_cases e3 : k < a
          · rw [if_pos e3]; cases R a f <;> cases R k f <;> cases R k k <;> rfl
          · rw [if_neg e3]; rfl
        · rw [if_neg (fun q => e2 q.2.2), hb a f ha hf]
          by_cases e3 : a < j
          · rw [if_pos e3, if_pos (by omega)]
          · rw [if_neg e3, if_neg (by omega)]
      · rw [if_neg hR]
        refine ih (j + 1) _ (by omega) (by omega) ⟨hF, fun a f ha hf => ?_⟩
        rw [hb a f ha hf]
        by_cases e2 : a = j
        · subst e2
          have : R a k = false := by simpa using hR
          rw [if_neg (by omega), if_pos (by omega), this]; simp
        · by_cases e3 : a < j
          · rw [if_pos e3, if_pos (by omega)]
          · rw [if_neg e3, if_neg (by omega)]
theorem l_warshall {σ : Sg} {mc : Nat} (hM : MC σ mc) : ∀ n k σ', k ≤ mc → mc - k < n → (FR [13, 14] σ σ' ∧ (∀ m f, m < mc → f < 32 → bt (σ'.1 14 0 m) f = true → f < mc) ∧ (∀ m f, LO σ mc m f → bt (σ'.1 14 0 m) f = true) ∧ ∀ a b c, a < mc → b < k → c < mc → bt (σ'.1 14 0 a) b = true → bt (σ'.1 14 0 b) c = true → bt (σ'.1 14 0 a) c = true) →
      ok (fun σ1 => FR [13, 14] σ σ1 ∧ RT σ1 mc) (m_X6_settleLeaning_97 n σ' (nI k)) := by
  have round := l_round hM
  obtain ⟨hM1, hM2⟩ := hM
  intro n
  induction n with
  | zero => intro k σ' _ h; omega
  | succ n ih =>
    intro k σ' hk hn hS
    obtain ⟨hF, h1, h2, h3⟩ := hS
    rw [m_X6_settleLeaning_97, show σ'.1 29 0 0 = nI mc from by rw [hF.1 29 (by decide)]; exact hM1]
    simp (disch := omega) only [le_n]
    by_cases e : k = mc
    · subst e
      rw [if_pos (Nat.le_refl _)]
      exact ok_r ⟨hF, h1, fun m f hl => h2 m f ((LO.c (hF.1 27 (by decide)) (hF.1 28 (by decide))).mp hl), h3⟩
    · rw [if_neg (by omega)]
      refine round k (fun a f => bt (σ'.1 14 0 a) f) (m_X6_settleLeaning_97 n) (by omega) (fun σ1 g => ih (k + 1) σ1 (by omega) (by omega) ?_) 1000 0 σ' (by omega) (by omega) ⟨hF, fun a f _ _ => by rw [if_neg (by omega)]⟩
      obtain ⟨g1, g2⟩ := g
      have hmc32 : mc ≤ 8 := hM2
      refine ⟨g1, fun m f hm hf hb => ?_, fun m f hl => ?_, fun a b c ha hb hc q1 q2 => ?_⟩
      · rw [g2 m f hm hf, Bool.or_eq_true, Bool.and_eq_true] at hb
        rcases hb with hb | ⟨_, hb⟩
        · exact h1 m f hm hf hb
        · exact h1 k f (by omega) hf hb
      · have hl' := hl
        obtain ⟨q1, q2, _⟩ := hl'
        rw [g2 m f q1 (by omega), h2 m f hl]; rfl
      · rw [g2 a b ha (by omega), Bool.or_eq_true, Bool.and_eq_true] at q1
        rw [g2 b c (by omega) (by omega), Bool.or_eq_true, Bool.and_eq_true] at q2
        rw [g2 a c ha (by omega), Bool.or_eq_true, Bool.and_eq_true]
        by_cases ebk : b = k
        · subst ebk
          have r1 : bt (σ'.1 14 0 a) b = true := q1.elim id (fun q => q.1)
          have r2 : bt (σ'.1 14 0 b) c = true := q2.elim id (fun q => q.2)
          exact Or.inr ⟨r1, r2⟩
        · have hbk : b < k := by omega
          rcases q1 with q1 | ⟨q1, q1'⟩ <;> rcases q2 with q2 | ⟨q2, q2'⟩
          · exact Or.inl (h3 a b c ha hbk hc q1 q2)
          · exact Or.inr ⟨h3 a b k ha hbk (by omega) q1 q2, q2'⟩
          · exact Or.inr ⟨q1, h3 k b c (by omega) hbk hc q1' q2⟩
          · exact Or.inr ⟨q1, q2'⟩
theorem l_one {σ : Sg} {mc : Nat} (hT : TX σ 0) (hM : MC σ mc) : ∀ (m : Nat) (k2 : Sg → Int32 → Option Sg) (σb : Sg), m < mc → (∀ σ1, (FR [13, 14] σ σ1 ∧ (∀ a, a ≠ m → σ1.1 14 0 a = σb.1 14 0 a) ∧ ∀ f, f < 32 → (bt (σ1.1 14 0 m) f = true ↔ LO σ mc m f)) → ok (fun σ1 => FR [13, 14] σ σ1 ∧ RT σ1 mc) (k2 σ1 (nI (m + 1)))) →
      ∀ n k σ', k ≤ cnt σ 0 m → cnt σ 0 m - k < n → (FR [13, 14] σ σ' ∧ (∀ a, σ'.1 14 0 a = σb.1 14 0 a) ∧ ∀ f, f < 32 → (bt (σ'.1 13 0 m) f = true ↔ f < mc ∧ ∃ i, i < k ∧ impFrom (imp σ 0 m i) = f)) → ok (fun σ1 => FR [13, 14] σ σ1 ∧ RT σ1 mc) (m_X6_settleLeaning_22 k2 n σ' (nI m) (nI k)) := by
  obtain ⟨hM1, hM2⟩ := hM
  intro m k2 σb hm hk2 n
  have hc5 := (hT.1 m (by omega)).1
  induction n with
  | zero => intro k σ' _ h; omega
  | succ n ih =>
    intro k σ' hk hn hS
    obtain ⟨hF, h14, hb⟩ := hS
    have e28 : σ'.1 28 0 m = nI (cnt σ 0 m) := by rw [hF.1 28 (by decide)]; exact (hT.1 m (by omega)).2
    rw [m_X6_settleLeaning_22, chk_n (by omega) (by omega), cl_nI (by omega), e28]
    simp (disch := omega) only [le_n]
    by_cases e : k = cnt σ 0 m
    · subst e
      rw [if_pos (Nat.le_refl _), chk_n (by omega) (by omega), chk_n (by omega) (by omega), nI_1]
      unfold st
      refine hk2 _ ⟨hF.tr (FR.w _ 0 _ _ (by decide)), fun a ha => by rw [wI_1, if_neg (fun q => ha q.2.2)]; exact h14 a, fun f hf => ?_⟩
      rw [wI_s, hb f hf]
      exact ⟨fun ⟨q1, q2⟩ => ⟨hm, q1, q2⟩, fun ⟨_, q1, q2⟩ => ⟨q1, q2⟩⟩
    · have e27 : σ'.1 27 0 (m * 5 + k) = imp σ 0 m k := by unfold imp; rw [hF.1 27 (by decide)]
      rw [if_neg (by omega), q_imp σ' 0 (by omega) (by omega), bnd_s, e27, q_from, bnd_s, show σ'.1 29 0 0 = nI mc from by rw [hF.1 29 (by decide)]; exact hM1, nI_1]
      have hfl := impFrom_lt (imp σ 0 m k)
      simp (disch := omega) only [le_n]
      by_cases e2 : mc ≤ impFrom (imp σ 0 m k)
      · rw [if_pos e2]
        refine ih (k + 1) σ' (by omega) (by omega) ⟨hF, h14, fun f hf => (hb f hf).trans (and_congr_right (fun hfm => ⟨fun ⟨i, q1, q2⟩ => ⟨i, by omega, q2⟩, fun ⟨i, q1, q2⟩ => ?_⟩))⟩
        by_cases e3 : i = k
        · subst e3; exact absurd q2 (by omega)
        · exact ⟨i, by omega, q2⟩
      · rw [if_neg e2, chk_n (by omega) (by omega), chk_n (by omega) (by omega)]
        unfold st
        refine ih (k + 1) _ (by omega) (by omega) ⟨hF.tr (FR.w _ 0 _ _ (by decide)), fun a => by rw [wI_ne _ _ _ _ _ _ (by decide)]; exact h14 a, fun f hf => ?_⟩
        rw [wI_s, b_or, bt_one _ (by omega) hf, Bool.or_eq_true, decide_eq_true_eq, hb f hf]
        constructor
        · rintro (⟨q1, i, q2, q3⟩ | q)
          · exact ⟨q1, i, by omega, q3⟩
          · exact ⟨by omega, k, by omega, q.symm⟩
        · rintro ⟨q1, i, q2, q3⟩
          by_cases e3 : i = k
          · subst e3; exact Or.inr q3.symm
          · exact Or.inl ⟨q1, i, by omega, q3⟩
theorem l_all {σ : Sg} {mc : Nat} (hT : TX σ 0) (hM : MC σ mc) : ∀ n m σ', m ≤ mc → mc - m < n → (FR [13, 14] σ σ' ∧ ∀ a f, a < m → f < 32 → (bt (σ'.1 14 0 a) f = true ↔ LO σ mc a f)) → ok (fun σ1 => FR [13, 14] σ σ1 ∧ RT σ1 mc) (m_X6_settleLeaning_2 n σ' (nI m)) := by
  have warshall := l_warshall hM
  have one := l_one hT hM
  obtain ⟨hM1, hM2⟩ := hM
  intro n
  induction n with
  | zero => intro m σ' _ h; omega
  | succ n ih =>
    intro m σ' hm hn hS
    obtain ⟨hF, hb⟩ := hS
    rw [m_X6_settleLeaning_2, show σ'.1 29 0 0 = nI mc from by rw [hF.1 29 (by decide)]; exact hM1]
    simp (disch := omega) only [le_n]
    by_cases e : m = mc
    · subst e
      rw [if_pos (Nat.le_refl _)]
      show ok _ (m_X6_settleLeaning_97 1000 σ' (nI 0))
      exact warshall 1000 0 σ' (by omega) (by omega) ⟨hF, fun a f ha hf q => ((hb a f ha hf).mp q).2.1, fun a f hl => (hb a f hl.1 (by have := hl.2.1; omega)).mpr hl, fun a b c _ hb' => absurd hb' (by omega)⟩
    · rw [if_neg (by omega), chk_n (by omega) (by omega), cl_nI (by omega)]
      unfold st
      show ok _ (m_X6_settleLeaning_22 (m_X6_settleLeaning_2 n) 1000 (wI σ' 13 0 m 0) (nI m) (nI 0))
      refine one m (m_X6_settleLeaning_2 n) (wI σ' 13 0 m 0) (by omega) (fun σ1 g => ih (m + 1) σ1 (by omega) (by omega) ⟨g.1, fun a f ha hf => ?_⟩) 1000 0 _ (by omega) (by have := (hT.1 m (by omega)).1; omega) ⟨hF.tr (FR.w _ 0 _ _ (by decide)), fun _ => rfl, fun f hf => ?_⟩
      · by_cases e2 : a = m
        · subst e2; exact g.2.2 f hf
        · rw [g.2.1 a e2, wI_ne _ _ _ _ _ _ (by decide)]
          exact hb a f (by omega) hf
      · rw [wI_s, b_0]
        exact ⟨fun q => (by cases q), fun ⟨_, i, q, _⟩ => absurd q (by omega)⟩
theorem s_leaning {σ : Sg} {mc : Nat} (hT : TX σ 0) (hM : MC σ mc) : ok (fun σ1 => FR [13, 14] σ σ1 ∧ RT σ1 mc) (m_X6_settleLeaning σ) := by
  have all := l_all hT hM
  have hm8 := hM.2
  unfold m_X6_settleLeaning
  exact all 1000 0 σ (by omega) (by omega) ⟨FR.rf _ _, fun a f ha => absurd ha (by omega)⟩
