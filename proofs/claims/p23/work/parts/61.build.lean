/-! BUILD -/
/-- only counts of builds change -/
def CRF (σ σ' : Sg) : Prop := (∀ c o, ¬ (1 ≤ c ∧ c ≤ 5 ∧ o = 0) → σ'.1 c o = σ.1 c o) ∧ σ'.2 = σ.2
theorem CRF.tr {a b c : Sg} (h1 : CRF a b) (h2 : CRF b c) : CRF a c := ⟨fun x o h => (h2.1 x o h).trans (h1.1 x o h), h2.2.trans h1.2⟩
theorem CRF.w (σ : Sg) {c : Nat} (i : Nat) (v : Int32) (h : 1 ≤ c ∧ c ≤ 5) : CRF σ (wI σ c 0 i v) := ⟨fun x o hx => wI_co σ c 0 i v (fun q => hx ⟨by omega, by omega, q.2⟩), rfl⟩
section CRFS
variable {σ σ' : Sg}
theorem CRF.lq (h : CRF σ σ') (w m : Nat) : LQ σ' w m = LQ σ w m := by unfold LQ; rw [h.2]
theorem CRF.i (h : CRF σ σ') {c : Nat} (hc : 6 ≤ c) : σ'.1 c = σ.1 c := by funext o; exact h.1 c o (by omega)
theorem CRF.vw (h : CRF σ σ') (w : Nat) : VE (VW σ' w) (VW σ w) := by
  refine ⟨fun m hm => ⟨?_, ?_, fun s hs => ?_⟩, fun j hj => ?_⟩
  · show σ'.1 30 (LQ σ' w m) 0 = σ.1 30 (LQ σ w m) 0
    rw [h.lq, h.i (by omega)]
  · show tsR σ' w (LQ σ' w m) ↔ tsR σ w (LQ σ w m)
    rw [h.lq]
    exact tsR_c (by rw [h.i (by omega)]) (fun x h1 h2 => by rw [h.i (by omega)]; exact ⟨rfl, rfl⟩)
  · show σ'.2.1 0 (LQ σ' w m) s = σ.2.1 0 (LQ σ w m) s
    rw [h.lq, h.2]
  · show σ'.2.1 1 (LQ σ' w (j / 16)) j = σ.2.1 1 (LQ σ w (j / 16)) j
    rw [h.lq, h.2]
theorem CRF.cx (h : CRF σ σ') (w : Nat) : CXW σ' w = CXW σ w := by
  have e : ∀ n ring s, wtR σ' ring n s = wtR σ ring n s := by
    intro n ring s
    induction n with
    | zero => rfl
    | succ n ih => rw [wtR, wtR, ih]; unfold wtB; rw [h.i (by omega)]
  unfold CXW
  rw [h.i (c := 6) (by omega), h.i (c := 7) (by omega), h.i (c := 26) (by omega)]
  congr 1
  congr 1
  funext ring s
  exact e 8 ring s
theorem GD.cr (h : CRF σ σ') {r : Nat} (g : GD σ r) : GD σ' r := g.c (by rw [h.i (by omega)]) (fun x h1 h2 => by rw [h.i (by omega)]) (fun x _ => by rw [h.2])
theorem BASE.cr {mc : Nat} (hB : BASE σ mc) (h : CRF σ σ') : BASE σ' mc := by
  obtain ⟨hW, hM, hR, hS, hI, hG, h19, hP, hU⟩ := hB
  refine ⟨⟨hW.1.c (fun c h1 h2 => by rw [h.i (by omega)]), hW.2.1, hW.2.2.c (fun c hc => ?_)⟩, ⟨by rw [h.i (by omega)]; exact hM.1, hM.2⟩, hR.c (fun c hc => by rw [h.i (by omega)]), fun r hr i hi => ?_, ?_, fun m hm => ?_, by rw [h.i (by omega)]; exact h19, fun k hk => by rw [h.2]; exact hP k hk, ?_⟩
  · have : 6 ≤ c := by
      unfold nmC at hc
      simp only [Bool.or_eq_true, beq_iff_eq] at hc
      omega
    rw [h.i this]
  · obtain ⟨x1, x2⟩ := hS r hr i hi
    have e : ∀ c, 31 ≤ c → c ≤ 36 → own σ r c i = own σ' r c i := fun c h1 h2 => by unfold own; rw [h.i (by omega)]
    rw [h.2]
    exact ⟨x1.trans (ansOf_c e), SFA_c e x2⟩
  · obtain ⟨i1, i2, ⟨c, ⟨s1, s2, s3⟩, i3⟩, i4, i5, i6⟩ := hI
    refine ⟨fun m hm => by rw [h.2]; exact i1 m hm, fun m hm => by rw [h.lq]; exact i2 m hm, ⟨c, ⟨by rw [h.i (by omega)]; exact s1, s2, fun k hk => by rw [h.2]; exact s3 k hk⟩, fun k hk => ?_⟩, fun k hk => by rw [h.2]; exact i4 k hk, ?_, TSI.z _⟩
    · have e : KQ σ' 0 k = KQ σ 0 k := by unfold KQ; rw [h.2]
      rw [e]
      exact ⟨(i3 k hk).1.cr h, (i3 k hk).2⟩
    · unfold CTR cnt at *
      rw [h.i (by omega)]; exact i5
  · rw [h.lq]
    rcases hG m hm with e | e
    · exact Or.inl e
    · exact Or.inr (e.cr h)
  · unfold U0 at *
    rw [h.i (by omega), h.i (by omega)]; exact hU
theorem BASE.run0 {mc : Nat} {V : AV} (hB : BASE σ mc) (h : RUN 0 σ σ' V) : BASE σ' mc := by
  obtain ⟨hW, hM, hR, hS, hI, hG, h19, hP, hU⟩ := hB
  obtain ⟨hF, hI', hS', hG', _⟩ := h
  refine ⟨hF.wfn hW, ⟨by rw [hF.t ⟨by omega, by omega⟩ (by omega)]; exact hM.1, hM.2⟩, hR.c (fun c hc => ?_), hS', hI', hG' rfl hG, by rw [hF.1 19 1 (by omega) (by omega) (by omega)]; exact h19, fun k hk => by rw [hF.2.2 3 1 (by omega)]; exact hP k hk, ?_, ?_⟩
  · rcases hc with z | z
    · exact hF.i 0 (by omega)
    · exact hF.t ⟨z.1, by omega⟩ (by omega)
  · rw [hF.1 30 0 (by omega) (fun z => by have := z.2.2.1; omega) (by omega)]; exact hU.1
  · rw [hF.1 26 2 (by omega) (by omega) (fun z => by have := z.2.2.2.1; omega)]; exact hU.2
end CRFS
/-- where a build changes things -/
def BRF (σ σ' : Sg) : Prop := (∀ c o, ¬ (1 ≤ c ∧ c ≤ 5 ∧ o = 0) → ¬ (19 ≤ c ∧ c ≤ 25 ∧ o = 0) → ¬ (30 ≤ c ∧ c ≤ 36 ∧ PL 0 o) → ¬ (26 ≤ c ∧ c ≤ 29 ∧ 2 ≤ o ∧ PL 0 (o - 2)) → σ'.1 c o = σ.1 c o)
theorem BRF.tr {a b c : Sg} (h1 : BRF a b) (h2 : BRF b c) : BRF a c := fun x o p q r s => (h2 x o p q r s).trans (h1 x o p q r s)
theorem CRF.br {σ σ' : Sg} (h : CRF σ σ') : BRF σ σ' := fun x o p _ _ _ => h.1 x o p
theorem RNF.br {σ σ' : Sg} (h : RNF 0 σ σ') : BRF σ σ' := fun x o _ q r s => h.1 x o q r s
theorem s_count {σ0 : Sg} (ring b : Int32) : ok (fun σ' => CRF σ0 σ' ∧ σ'.1 3 0 0 + σ'.1 4 0 0 = σ0.1 3 0 0 + σ0.1 4 0 0 + 1) (m_X10_countRenewal σ0 ring b) := by
  have key : ∀ (ca : Nat), (ca = 1 ∨ ca = 2) → ∀ n m σ, m ≤ 8 → 8 - m < n → (CRF σ0 σ ∧ σ.1 3 0 0 + σ.1 4 0 0 = σ0.1 3 0 0 + σ0.1 4 0 0 + 1) → ok (fun σ' => CRF σ0 σ' ∧ σ'.1 3 0 0 + σ'.1 4 0 0 = σ0.1 3 0 0 + σ0.1 4 0 0 + 1) (m_X10_countRenewal_46 ring b n σ ca (nI m)) := by
    intro ca hca n
    induction n with
    | zero => intro m _ _ h; omega
    | succ n ih =>
      intro m σ hm hn hI
      rw [m_X10_countRenewal_46]
      by_cases e : m = 8
      · subst e
        rw [if_pos (by decide)]
        exact ok_r hI
      · rw [if_neg (by rw [le_8 (by omega)]; omega), q_has _ _ (by omega), bnd_s, ite_01, nI_1]
        by_cases hb : bt ring m = true
        · rw [if_pos hb, chk_n (by omega) (by omega), chk_n (by omega) (by omega), st_s]
          refine ih (m + 1) _ (by omega) (by omega) ⟨hI.1.tr (CRF.w _ _ _ (by omega)), ?_⟩
          rw [wI_ne _ _ _ _ _ _ (by omega), wI_ne _ _ _ _ _ _ (by omega)]
          exact hI.2
        · rw [if_neg hb]
          exact ih (m + 1) _ (by omega) (by omega) hI
  have k27 : ∀ σ, (CRF σ0 σ ∧ σ.1 3 0 0 + σ.1 4 0 0 = σ0.1 3 0 0 + σ0.1 4 0 0 + 1) → ok (fun σ' => CRF σ0 σ' ∧ σ'.1 3 0 0 + σ'.1 4 0 0 = σ0.1 3 0 0 + σ0.1 4 0 0 + 1) (m_X10_countRenewal_27 ring b σ) := by
    intro σ hI
    unfold m_X10_countRenewal_27
    by_cases h : b = 0
    · rw [if_pos h]
      show ok _ (m_X10_countRenewal_46 ring b 1000 σ 1 (nI 0))
      exact key 1 (Or.inl rfl) 1000 0 σ (by omega) (by omega) hI
    · rw [if_neg h]
      show ok _ (m_X10_countRenewal_46 ring b 1000 σ 2 (nI 0))
      exact key 2 (Or.inr rfl) 1000 0 σ (by omega) (by omega) hI
  unfold m_X10_countRenewal
  by_cases h : b = 0
  · rw [if_pos h, st_s]
    refine k27 _ ⟨CRF.w _ _ _ (by omega), ?_⟩
    rw [wI_s, wI_ne _ _ _ _ _ _ (by omega)]
    simp only [Int32.add_assoc, Int32.add_comm]
  · rw [if_neg h, st_s]
    refine k27 _ ⟨CRF.w _ _ _ (by omega), ?_⟩
    rw [wI_s, wI_ne _ _ _ _ _ _ (by omega), Int32.add_assoc]
theorem s_build {σ0 : Sg} {mc k : Nat} (hB : BASE σ0 mc) (hk1 : 1 ≤ k) (hk8 : k ≤ 8) : ok (fun q => BASE q.1 mc ∧ BRF σ0 q.1 ∧ q.2 = nI (pb (CXW σ0 0) (qR σ0) (cnR σ0) 0 k (VW σ0 0)).2 ∧ q.1.1 3 0 0 + q.1.1 4 0 0 = σ0.1 3 0 0 + σ0.1 4 0 0 + nI (pb (CXW σ0 0) (qR σ0) (cnR σ0) 0 k (VW σ0 0)).2 ∧ VE (VW q.1 0) (pb (CXW σ0 0) (qR σ0) (cnR σ0) 0 k (VW σ0 0)).1 ∧ CXW q.1 0 = CXW σ0 0 ∧ qR q.1 = qR σ0 ∧ cnR q.1 = cnR σ0) (m_X10_build σ0 (nI k)) := by
  obtain ⟨hR0, hT0, hcm, _⟩ := hB.rg
  have hC0 := hT0.1
  have hc8 := hR0.2.1
  unfold m_X10_build
  rw [q_within σ0 (by rw [show (1 : Int32) = nI 1 from rfl, lt_n (by omega) (by omega)]; omega) (by rw [show (8 : Int32) = nI 8 from rfl, le_n (by omega) (by omega)]; exact hk8), bnd_s, st_s]
  have key : ∀ d p n σ V j, p + d = cnR σ0 → d < n → j ≤ k → (BASE σ mc ∧ BRF σ0 σ ∧ CXW σ 0 = CXW σ0 0 ∧ qR σ = qR σ0 ∧ cnR σ = cnR σ0 ∧ VE (VW σ 0) V ∧ σ.1 3 0 0 + σ.1 4 0 0 = σ0.1 3 0 0 + σ0.1 4 0 0 + nI j) →
      ok (fun q => BASE q.1 mc ∧ BRF σ0 q.1 ∧ q.2 = nI (j + (pb (CXW σ0 0) (qR σ0) d p (k - j) V).2) ∧ q.1.1 3 0 0 + q.1.1 4 0 0 = σ0.1 3 0 0 + σ0.1 4 0 0 + nI (j + (pb (CXW σ0 0) (qR σ0) d p (k - j) V).2) ∧ VE (VW q.1 0) (pb (CXW σ0 0) (qR σ0) d p (k - j) V).1 ∧ CXW q.1 0 = CXW σ0 0 ∧ qR q.1 = qR σ0 ∧ cnR q.1 = cnR σ0) (m_X10_build_21 (nI k) n σ (nI j) (nI p)) := by
    intro d
    induction d with
    | zero =>
      intro p n σ V j hp hn hj hI
      obtain ⟨n, rfl⟩ : ∃ z, n = z + 1 := ⟨n - 1, by omega⟩
      obtain ⟨b1, b2, b3, b4, b5, b6, b7⟩ := hI
      rw [m_X10_build_21, if_pos (by rw [b1.rg.1.1, b5, le_n (by omega) (by omega)]; omega)]
      exact ok_r ⟨b1, b2, rfl, b7, b6, b3, b4, b5⟩
    | succ d ih =>
      intro p n σ V j hp hn hj hI
      obtain ⟨n, rfl⟩ : ∃ z, n = z + 1 := ⟨n - 1, by omega⟩
      have hI0 := hI
      obtain ⟨b1, b2, b3, b4, b5, b6, b7⟩ := hI
      have hRs := b1.rg.1
      rw [b5] at hRs
      rw [m_X10_build_21, if_neg (by rw [hRs.1, le_n (by omega) (by omega)]; omega)]
      by_cases e : j = k
      · rw [if_pos (by rw [le_n (by omega) (by omega)]; omega), pb, if_pos (by omega)]
        exact ok_r ⟨b1, b2, rfl, b7, b6, b3, b4, b5⟩
      · have e17 : σ.1 17 0 (nI p).toNatClampNeg = σ.1 17 0 p := by rw [cl_nI (by omega)]
        have hz : RUN 0 σ σ (VW σ 0) := RUN.z b1.2.2.2.1 b1.2.2.2.2.1
        obtain ⟨v, v1, v2⟩ := reason_at (by omega) b1.1 hRs hz (show p < cnR σ0 by omega)
        have ering : σ.1 17 0 p = qR σ0 p := by rw [← b4]
        have v2' : v = 0 ↔ frA (CXW σ0 0) V (qR σ0 p) := by
          rw [v2, b3, ering]
          exact frA_c hC0 (sm8_s (hT0.2.1 p (by omega))).1 b6
        rw [if_neg (by rw [le_n (by omega) (by omega)]; omega), chk_n (by omega) (by omega), e17, v1, bnd_s]
        by_cases h0 : v = 0
        · rw [if_pos h0, pb, if_neg (by omega), ifP_t (v2'.mp h0), nI_1]
          exact ih (p + 1) n σ V j (by omega) (by omega) hj hI0
        · rw [if_neg h0, pb, if_neg (by omega), ifP_f (fun z => h0 (v2'.mpr z))]
          refine ok_b2 (renew_at (by omega) b1.1 hRs hz (show p < cnR σ0 by omega)) (fun σ1 b hq => ?_)
          obtain ⟨q1, _⟩ := hq
          have hB1 := b1.run0 q1
          refine ok_b (s_count (σ0 := σ1) (σ.1 17 0 p) b) (fun σ2 h2 => ?_)
          obtain ⟨g1, g2⟩ := h2
          have e3 : ∀ c o, c ≤ 18 → σ1.1 c o = σ.1 c o := fun c o hc => q1.1.i o hc
          rw [nI_1, nI_1]
          have hV2 : VE (VW σ2 0) (renA (CXW σ0 0) V (qR σ0 p)) := by
            have q5 := q1.2.2.2.2
            rw [b3, ering] at q5
            exact (g1.vw 0).tr (q5.tr (renA_c _ hC0 b6))
          refine ok_w (ih (p + 1) n σ2 _ (j + 1) (by omega) (by omega) (by omega) ⟨hB1.cr g1, b2.tr (q1.1.br.tr g1.br), by rw [g1.cx, q1.1.cx (by omega), b3], ?_, ?_, hV2, ?_⟩) (fun q hq2 => ?_)
          · funext x
            show σ2.1 17 0 x = _
            rw [g1.i (by omega), e3 17 0 (by omega), ← b4]
          · unfold cnR at *
            rw [g1.i (by omega), e3 18 0 (by omega), b5]
          · rw [g2, e3 3 0 (by omega), e3 4 0 (by omega), b7, Int32.add_assoc, nI_1]
          · rw [show k - (j + 1) = k - j - 1 by omega, Nat.add_right_comm j 1 _] at hq2
            exact hq2
  have hcr : CRF σ0 (wI σ0 5 0 0 (σ0.1 5 0 0 + 1)) := CRF.w _ _ _ (by omega)
  have h3 : (wI σ0 5 0 0 (σ0.1 5 0 0 + 1)).1 3 0 0 = σ0.1 3 0 0 := wI_ne _ _ _ _ _ _ (by decide)
  have h4 : (wI σ0 5 0 0 (σ0.1 5 0 0 + 1)).1 4 0 0 = σ0.1 4 0 0 := wI_ne _ _ _ _ _ _ (by decide)
  generalize wI σ0 5 0 0 (σ0.1 5 0 0 + 1) = σ5 at *
  show ok _ (m_X10_build_21 (nI k) 1000 σ5 (nI 0) (nI 0))
  refine ok_w (key (cnR σ0) 0 1000 σ5 (VW σ0 0) 0 (by omega) (by omega) (by omega) ⟨hB.cr hcr, hcr.br, hcr.cx 0, ?_, ?_, hcr.vw 0, ?_⟩) (fun q hq => ?_)
  · funext x
    show σ5.1 17 0 x = _
    rw [hcr.i (by omega)]
  · unfold cnR
    rw [hcr.i (by omega)]
  · rw [h3, h4]
    exact (Int32.add_zero _).symm
  · rw [Nat.sub_zero, Nat.zero_add] at hq
    exact hq
/-- what the law asks of a build -/
theorem build_due {σ0 σ : Sg} {mc k : Nat} (hB : BASE σ0 mc) (hB' : BASE σ mc) (hV : VE (VW σ 0) (pb (CXW σ0 0) (qR σ0) (cnR σ0) 0 k (VW σ0 0)).1) (hC : CXW σ 0 = CXW σ0 0) (hq : qR σ = qR σ0) (hc : cnR σ = cnR σ0) : dueS σ0 = (pb (CXW σ0 0) (qR σ0) (cnR σ0) 0 k (VW σ0 0)).2 + dueS σ := by
  obtain ⟨hR, hT, _⟩ := hB.rg
  obtain ⟨_, h⟩ := pb_due hT (cnR σ0) 0 k (VW σ0 0) (by omega) hB.vi (fun p hp => absurd hp (by omega))
  unfold dueS
  rw [hC, hq, hc, h, (pa_c hT.1 hT.2.1 _ _ _ _ (by omega) hV).2]
theorem build_all {σ0 σ : Sg} {mc : Nat} (hB : BASE σ0 mc) (hB' : BASE σ mc) (hV : VE (VW σ 0) (pb (CXW σ0 0) (qR σ0) (cnR σ0) 0 8 (VW σ0 0)).1) (hC : CXW σ 0 = CXW σ0 0) (hq : qR σ = qR σ0) (hc : cnR σ = cnR σ0) : dueS σ = 0 ∧ (pb (CXW σ0 0) (qR σ0) (cnR σ0) 0 8 (VW σ0 0)).2 = dueS σ0 := by
  obtain ⟨hR, hT, _⟩ := hB.rg
  have e := pb_all (C := CXW σ0 0) (q := qR σ0) (cnR σ0) 0 8 (VW σ0 0) hR.2.1
  rw [e] at hV ⊢
  refine ⟨?_, rfl⟩
  obtain ⟨_, h⟩ := pa_fresh hT (cnR σ0) 0 (VW σ0 0) (by omega) hB.vi (fun p hp => absurd hp (by omega))
  unfold dueS
  rw [hC, hq, hc, pa_zero]
  intro p _ hp
  exact (frA_c hT.1 (sm8_s (hT.2.1 p (by omega))).1 hV).mpr (h p (by omega))
/-- nothing stale: nothing due -/
theorem stale_due {σ : Sg} {mc : Nat} (hB : BASE σ mc) : ∃ k, k ≤ 8 ∧ m_X9_staleCount σ 0 = some (nI k) ∧ (k = 0 ↔ dueS σ = 0) := by
  obtain ⟨hR, hT, _⟩ := hB.rg
  obtain ⟨k, a, b, d⟩ := s_stale (w := 0) (by omega) hB.1 hR (RUN.z hB.2.2.2.1 hB.2.2.2.2.1)
  have := hR.2.1
  refine ⟨k, by omega, b, d.trans ?_⟩
  unfold dueS
  rw [pa_zero]
  exact ⟨fun z p _ hp => z p (by omega), fun z p hp => z p (by omega) (by omega)⟩
