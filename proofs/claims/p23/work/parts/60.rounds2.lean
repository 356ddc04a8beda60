/-! ROUNDS: do as the values do -/
theorem b_not (x : Int32) {i : Nat} (hi : i < 32) : bt (x ^^^ (-1)) i = !bt x i := by rw [b_xor, b_m1 i hi, Bool.xor_true]
section RND
variable {w mc c : Nat} {σ0 σ : Sg} {V : AV}
theorem s_staleMods (hw : w < 2) (hW : WFN σ0 mc) (hR : RINGS σ0 mc c) (h : RUN w σ0 σ V) : ∃ v, m_X9_staleModules σ w = some v ∧ ∀ f, f < 32 → (bt v f = true ↔ ∃ p, p < c ∧ ¬ frA (CXW σ0 w) V (σ0.1 17 0 p) ∧ bt (σ0.1 17 0 p) f = true) := by
  have hc := hR.2.1
  have key : ∀ n p x, p ≤ c → c - p < n → (∀ f, f < 32 → (bt x f = true ↔ ∃ i, i < p ∧ ¬ frA (CXW σ0 w) V (σ0.1 17 0 i) ∧ bt (σ0.1 17 0 i) f = true)) → ∃ v, m_X9_staleModules_4 σ w n x (nI p) = some v ∧ ∀ f, f < 32 → (bt v f = true ↔ ∃ p, p < c ∧ ¬ frA (CXW σ0 w) V (σ0.1 17 0 p) ∧ bt (σ0.1 17 0 p) f = true) := by
    intro n
    induction n with
    | zero => intro p x _ h; omega
    | succ n ih =>
      intro p x hp hn hI
      by_cases e : p = c
      · subst e
        rw [m_X9_staleModules_4, if_pos (by rw [h.1.i 0 (by omega), hR.1, le_n (by omega) (by omega)]; omega)]
        exact ⟨x, rfl, hI⟩
      · obtain ⟨v, v1, v2⟩ := reason_at hw hW hR h (show p < c by omega)
        have e17 : σ.1 17 0 (nI p).toNatClampNeg = σ0.1 17 0 p := by rw [cl_nI (by omega), h.1.i 0 (by omega)]
        rw [m_X9_staleModules_4, if_neg (by rw [h.1.i 0 (by omega), hR.1, le_n (by omega) (by omega)]; omega), chk_n (by omega) (by omega), e17, v1, bnd_s]
        by_cases h0 : v = 0
        · rw [if_pos h0, nI_1]
          refine ih (p + 1) x (by omega) (by omega) (fun f hf => (hI f hf).trans ⟨?_, ?_⟩)
          · rintro ⟨i, a, b⟩; exact ⟨i, by omega, b⟩
          · rintro ⟨i, a, b, d⟩
            by_cases e2 : i = p
            · rw [e2] at b; exact absurd (v2.mp h0) b
            · exact ⟨i, by omega, b, d⟩
        · rw [if_neg h0, chk_n (by omega) (by omega), nI_1]
          refine ih (p + 1) _ (by omega) (by omega) (fun f hf => ?_)
          rw [b_or, Bool.or_eq_true, hI f hf]
          constructor
          · rintro (⟨i, a, b⟩ | z)
            · exact ⟨i, by omega, b⟩
            · exact ⟨p, by omega, fun q => h0 (v2.mpr q), z⟩
          · rintro ⟨i, a, b, d⟩
            by_cases e2 : i = p
            · rw [e2] at d; exact Or.inr d
            · exact Or.inl ⟨i, by omega, b, d⟩
  unfold m_X9_staleModules
  show ∃ v, m_X9_staleModules_4 σ w 1000 (nI 0) (nI 0) = some v ∧ _
  exact key 1000 0 0 (by omega) (by omega) (fun f _ => ⟨(fun z => by rw [b_0] at z; cases z), fun ⟨i, a, _⟩ => absurd a (by omega)⟩)
/-- the two tests of a round are whether a ring can be renewed at once -/
theorem el_of (hT : TOP (CXW σ0 w) (qR σ0) c (REW σ0)) (h8 : ∀ p, p < c → ∀ f, f < 32 → bt (σ0.1 14 0 (sm8 (qR σ0 p))) f = true → f < 8) {v : Int32} (hv : ∀ f, f < 32 → (bt v f = true ↔ ∃ p, p < c ∧ ¬ frA (CXW σ0 w) V (σ0.1 17 0 p) ∧ bt (σ0.1 17 0 p) f = true)) {p : Nat} (hp : p < c) :
    (bt v (sm8 (σ0.1 17 0 p)) = true ∧ ((σ0.1 14 0 (sm8 (σ0.1 17 0 p)) &&& (σ0.1 17 0 p ^^^ (-1))) &&& v) = 0) ↔ STL (CXW σ0 w) (qR σ0) c (REW σ0) V p := by
  obtain ⟨s8, sb⟩ := sm8_s (hT.2.1 p hp)
  have s8' : sm8 (σ0.1 17 0 p) < 8 := s8
  have h1 : bt v (sm8 (σ0.1 17 0 p)) = true ↔ ¬ frA (CXW σ0 w) V (qR σ0 p) := by
    rw [hv _ (by omega)]
    constructor
    · rintro ⟨p', a, b, d⟩
      have e : p' = p := hT.2.2.1 p' p _ a hp s8 d sb
      rw [← e]; exact b
    · exact fun z => ⟨p, hp, z, sb⟩
  rw [h1]
  unfold STL
  refine and_congr_right (fun _ => ?_)
  rw [bt_zero]
  constructor
  · intro hz p' m a b d
    have hm8 := (hT.2.2.2.2.1 p hp m b).1
    have := hz m (by omega)
    rw [b_and, b_and, b_not _ (by omega)] at this
    refine Classical.byContradiction (fun hf => ?_)
    have e1 : bt v m = true := (hv m (by omega)).mpr ⟨p', a, hf, d⟩
    have e2 : bt (σ0.1 14 0 (sm8 (σ0.1 17 0 p))) m = true := b.2.1
    have e3 : bt (σ0.1 17 0 p) m = false := by simpa using b.2.2
    rw [e1, e2, e3] at this
    cases this
  · intro hz f hf
    rw [b_and, b_and, b_not _ hf]
    by_cases e1 : bt v f = true
    · by_cases e2 : bt (σ0.1 14 0 (sm8 (σ0.1 17 0 p))) f = true
      · by_cases e3 : bt (σ0.1 17 0 p) f = true
        · rw [e3]; simp
        · obtain ⟨p', a, b, d⟩ := (hv f hf).mp e1
          exact absurd (hz p' f a ⟨h8 p hp f hf e2, e2, e3⟩ d) b
      · simp [e2]
    · simp [e1]
theorem s_round (hw : w < 2) (hW : WFN σ0 mc) (hR : RINGS σ0 mc c) (hT : TOP (CXW σ0 w) (qR σ0) c (REW σ0)) (h8 : ∀ p, p < c → ∀ f, f < 32 → bt (σ0.1 14 0 (sm8 (qR σ0 p))) f = true → f < 8) (h : RUN w σ0 σ V) {k : Nat} (hk : k < 100) : ok (fun q => RUN w σ0 q.1 (roundA (CXW σ0 w) (qR σ0) c (REW σ0) k V).1 ∧ q.2 = nI (roundA (CXW σ0 w) (qR σ0) c (REW σ0) k V).2) (m_X9_renewRound σ w (nI k)) := by
  have hc := hR.2.1
  obtain ⟨v, v1, v2⟩ := s_staleMods hw hW hR h
  have key : ∀ d p n σ V' j, p + d = c → d < n → j ≤ k → RUN w σ0 σ V' → ok (fun q => RUN w σ0 q.1 (ro (CXW σ0 w) (qR σ0) (STL (CXW σ0 w) (qR σ0) c (REW σ0) V) d p (k - j) V').1 ∧ q.2 = nI (j + (ro (CXW σ0 w) (qR σ0) (STL (CXW σ0 w) (qR σ0) c (REW σ0) V) d p (k - j) V').2)) (m_X9_renewRound_10 w (nI k) n σ v (nI j) (nI p)) := by
    intro d
    induction d with
    | zero =>
      intro p n σ V' j hp hn hj h
      obtain ⟨n, rfl⟩ : ∃ z, n = z + 1 := ⟨n - 1, by omega⟩
      rw [m_X9_renewRound_10, if_pos (by rw [h.1.i 0 (by omega), hR.1, le_n (by omega) (by omega)]; omega)]
      exact ok_r ⟨h, rfl⟩
    | succ d ih =>
      intro p n σ V' j hp hn hj h
      obtain ⟨n, rfl⟩ : ∃ z, n = z + 1 := ⟨n - 1, by omega⟩
      rw [m_X9_renewRound_10, if_neg (by rw [h.1.i 0 (by omega), hR.1, le_n (by omega) (by omega)]; omega)]
      by_cases e : j = k
      · rw [if_pos (by rw [le_n (by omega) (by omega)]; omega), ro, if_pos (by omega)]
        exact ok_r ⟨h, rfl⟩
      · have e17 : σ.1 17 0 (nI p).toNatClampNeg = σ0.1 17 0 p := by rw [cl_nI (by omega), h.1.i 0 (by omega)]
        have hN := hR.2.2.1 p (show p < c by omega)
        obtain ⟨s8, sb⟩ := sm8_s hN
        have hel := el_of hT h8 v2 (show p < c by omega)
        have r0 : ¬ STL (CXW σ0 w) (qR σ0) c (REW σ0) V p → ro (CXW σ0 w) (qR σ0) (STL (CXW σ0 w) (qR σ0) c (REW σ0) V) (d + 1) p (k - j) V' = ro (CXW σ0 w) (qR σ0) (STL (CXW σ0 w) (qR σ0) c (REW σ0) V) d (p + 1) (k - j) V' := fun z => by
          rw [ro, if_neg (by omega), ifP_f z]
        have r1 : STL (CXW σ0 w) (qR σ0) c (REW σ0) V p → ro (CXW σ0 w) (qR σ0) (STL (CXW σ0 w) (qR σ0) c (REW σ0) V) (d + 1) p (k - j) V' = ((ro (CXW σ0 w) (qR σ0) (STL (CXW σ0 w) (qR σ0) c (REW σ0) V) d (p + 1) (k - j - 1) (renA (CXW σ0 w) V' (qR σ0 p))).1, (ro (CXW σ0 w) (qR σ0) (STL (CXW σ0 w) (qR σ0) c (REW σ0) V) d (p + 1) (k - j - 1) (renA (CXW σ0 w) V' (qR σ0 p))).2 + 1) := fun z => by
          rw [ro, if_neg (by omega), ifP_t z]
        rw [if_neg (by rw [le_n (by omega) (by omega)]; omega), chk_n (by omega) (by omega), e17, (q_stand σ hN).1, bnd_s, q_has _ _ (by omega), bnd_s, ite_01]
        have skip : ¬ STL (CXW σ0 w) (qR σ0) c (REW σ0) V p → ok (fun q => RUN w σ0 q.1 (ro (CXW σ0 w) (qR σ0) (STL (CXW σ0 w) (qR σ0) c (REW σ0) V) (d + 1) p (k - j) V').1 ∧ q.2 = nI (j + (ro (CXW σ0 w) (qR σ0) (STL (CXW σ0 w) (qR σ0) c (REW σ0) V) (d + 1) p (k - j) V').2)) (m_X9_renewRound_10 w (nI k) n σ v (nI j) (nI p + 1)) := fun z => by
          rw [r0 z, nI_1]
          exact ih (p + 1) n σ V' j (by omega) (by omega) hj h
        by_cases hb : bt v (sm8 (σ0.1 17 0 p)) = true
        · rw [if_pos hb, chk_n (by omega) (by omega), cl_nI (by omega), h.1.i 0 (by omega)]
          by_cases hz : ((σ0.1 14 0 (sm8 (σ0.1 17 0 p)) &&& (σ0.1 17 0 p ^^^ (-1))) &&& v) = 0
          · rw [if_pos hz, r1 (hel.mp ⟨hb, hz⟩)]
            refine ok_b2 (renew_at hw hW hR h (show p < c by omega)) (fun σ1 b hq => ?_)
            rw [nI_1, nI_1]
            refine ok_w (ih (p + 1) n σ1 _ (j + 1) (by omega) (by omega) (by omega) hq.1) (fun q hq2 => ?_)
            rw [show k - (j + 1) = k - j - 1 by omega] at hq2
            refine ⟨hq2.1, ?_⟩
            rw [hq2.2]
            congr 1
            exact Nat.add_right_comm j 1 _
          · rw [if_neg hz]
            exact skip (fun z => hz (hel.mpr z).2)
        · rw [if_neg hb]
          exact skip (fun z => hb (hel.mpr z).1)
  unfold m_X9_renewRound
  rw [v1, bnd_s]
  show ok _ (m_X9_renewRound_10 w (nI k) 1000 σ v (nI 0) (nI 0))
  refine ok_w (key c 0 1000 σ V 0 (by omega) (by omega) (by omega) h) (fun q hq => ?_)
  rw [Nat.sub_zero] at hq
  refine ⟨hq.1, ?_⟩
  rw [hq.2, Nat.zero_add]
  rfl
end RND
/-- in how many rounds -/
noncomputable def rndS (σ : Sg) (k : Nat) : Nat := roA (CXW σ 0) (qR σ) (cnR σ) (REW σ) k 8 (VW σ 0)
theorem q_within (σ : Sg) {x a b : Int32} (h1 : ¬ x < a) (h2 : x ≤ b) : m_X10_checkWithin σ x a b = some () := by
  unfold m_X10_checkWithin
  rw [if_neg h1, if_pos h2]
theorem s_rounds {σ : Sg} {mc k : Nat} (hB : BASE σ mc) (hk1 : 1 ≤ k) (hk4 : k ≤ 4) : ok (fun q => MFR σ q.1 ∧ BASE q.1 mc ∧ q.2 = nI (rndS σ k)) (m_X10_rounds σ (nI k)) := by
  obtain ⟨hR, hT, hcm, h8⟩ := hB.rg
  unfold m_X10_rounds
  rw [q_within σ (by rw [show (1 : Int32) = nI 1 from rfl, lt_n (by omega) (by omega)]; omega) (by rw [show (4 : Int32) = nI 4 from rfl, le_n (by omega) (by omega)]; exact hk4), bnd_s]
  refine ok_b (s_start hB.2.2.2.2.1.1) (fun σ1 h1 => ?_)
  have hB1 := h1.base hB
  have hg := h1.mfr.rg
  have hT1 : TOP (CXW σ1 1) (qR σ1) (cnR σ) (REW σ1) := by rw [h1.cx, hg.1, hg.2.2]; exact hT
  have h81 : ∀ p, p < cnR σ → ∀ f, f < 32 → bt (σ1.1 14 0 (sm8 (qR σ1 p))) f = true → f < 8 := by rw [hg.1, h1.mfr.n (c := 14) ⟨by omega, by omega⟩ 0]; exact h8
  have key : ∀ f t n σ2 V, t + f = 8 → f < n → RUN 1 σ1 σ2 V → ok (fun q => (∃ V', RUN 1 σ1 q.1 V') ∧ q.2 = nI (t + roA (CXW σ1 1) (qR σ1) (cnR σ) (REW σ1) k f V)) (m_X10_rounds_19 (nI k) n σ2 (nI t)) := by
    intro f
    induction f with
    | zero =>
      intro t n σ2 V ht hn h
      obtain ⟨n, rfl⟩ : ∃ z, n = z + 1 := ⟨n - 1, by omega⟩
      rw [m_X10_rounds_19, if_pos (by rw [le_8 (by omega)]; omega)]
      exact ok_r ⟨⟨V, h⟩, rfl⟩
    | succ f ih =>
      intro t n σ2 V ht hn h
      obtain ⟨n, rfl⟩ : ∃ z, n = z + 1 := ⟨n - 1, by omega⟩
      rw [m_X10_rounds_19, if_neg (by rw [le_8 (by omega)]; omega)]
      refine ok_b2 (s_round (by omega) hB1.1 (h1.rings hR) hT1 h81 h (show k < 100 by omega)) (fun σ3 r hq => ?_)
      obtain ⟨q1, q2⟩ := hq
      have q2' : r = nI (roundA (CXW σ1 1) (qR σ1) (cnR σ) (REW σ1) k V).2 := q2
      have hle : (roundA (CXW σ1 1) (qR σ1) (cnR σ) (REW σ1) k V).2 < 2147483648 := by
        have : ∀ d p n V, (ro (CXW σ1 1) (qR σ1) (STL (CXW σ1 1) (qR σ1) (cnR σ) (REW σ1) V) d p n V).2 ≤ n := fun d p n V => by
          have : ∀ (el : Nat → Prop) d p n V, (ro (CXW σ1 1) (qR σ1) el d p n V).2 ≤ n := by
            intro el d
            induction d with
            | zero => intro p n V; exact Nat.zero_le n
            | succ d ih =>
              intro p n V
              rw [ro]
              by_cases hn : n = 0
              · rw [if_pos hn]; exact Nat.zero_le n
              · rw [if_neg hn]
                by_cases he : el p
                · rw [ifP_t he]
                  have := ih (p + 1) (n - 1) (renA (CXW σ1 1) V (qR σ1 p))
                  show _ + 1 ≤ n
                  omega
                · rw [ifP_f he]; exact ih (p + 1) n V
          exact this _ d p n V
        have := this (cnR σ) 0 k V
        show (ro (CXW σ1 1) (qR σ1) (STL (CXW σ1 1) (qR σ1) (cnR σ) (REW σ1) V) (cnR σ) 0 k V).2 < 2147483648
        omega
      rw [q2']
      by_cases h0 : (roundA (CXW σ1 1) (qR σ1) (cnR σ) (REW σ1) k V).2 = 0
      · rw [if_pos (by rw [le0 hle]; exact h0), roA, if_pos h0]
        exact ok_r ⟨⟨_, q1⟩, rfl⟩
      · rw [if_neg (by rw [le0 hle]; exact h0), roA, if_neg h0, nI_1]
        refine ok_w (ih (t + 1) n σ3 _ (by omega) (by omega) q1) (fun q hq => ⟨hq.1, ?_⟩)
        rw [hq.2]
        congr 1
        omega
  show ok _ (m_X10_rounds_19 (nI k) 1000 σ1 (nI 0))
  refine ok_w (key 8 0 1000 σ1 _ (by omega) (by omega) (RUN.z hB1.2.2.2.1 (h1.iw hB))) (fun q hq => ?_)
  obtain ⟨⟨V', q1⟩, q2⟩ := hq
  obtain ⟨m1, m2⟩ := RUN.base hB h1.mfr q1
  refine ⟨m1, m2, ?_⟩
  rw [q2, Nat.zero_add]
  unfold rndS
  rw [h1.cx, hg.1, hg.2.2]
  congr 1
  exact roA_c hT 8 _ _ (h1.ve hB)
