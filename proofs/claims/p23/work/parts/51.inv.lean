/-! RENEW: what is kept to, where it changes things -/
def LF (w : Nat) (ring : Int32) (r : Nat) (σ σ' : Sg) : Prop := σ'.1 = σ.1 ∧ σ'.2.1 = σ.2.1 ∧ (∀ c o, ¬ (c = 0 ∧ o = w) → σ'.2.2 c o = σ.2.2 c o) ∧ ∀ m, m < 8 → σ'.2.2 0 w m = if bt ring m = true then some r else σ.2.2 0 w m
theorem s_last {σ0 : Sg} {w r : Nat} {ring x : Int32} (hx : x = 0 ∨ x = 1) : ok (fun q => LF w ring r σ0 q.1 ∧ q.2 = x) (m_X9_renew_90 w ring 1000 σ0 x r 0) := by
  have key : ∀ n m σ, m ≤ 8 → 8 - m < n → (σ.1 = σ0.1 ∧ σ.2.1 = σ0.2.1 ∧ (∀ c o, ¬ (c = 0 ∧ o = w) → σ.2.2 c o = σ0.2.2 c o) ∧ ∀ i, i < 8 → σ.2.2 0 w i = if i < m ∧ bt ring i = true then some r else σ0.2.2 0 w i) → ok (fun q => LF w ring r σ0 q.1 ∧ q.2 = x) (m_X9_renew_90 w ring n σ x r (nI m)) := by
    intro n
    induction n with
    | zero => intro m _ _ h; omega
    | succ n ih =>
      intro m σ hm hn hI
      obtain ⟨i1, i2, i3, i4⟩ := hI
      rw [m_X9_renew_90]
      by_cases e : m = 8
      · subst e
        rw [if_pos (by decide), chk_e (zb_v hx)]
        refine ok_r ⟨⟨i1, i2, i3, fun i hi => ?_⟩, rfl⟩
        rw [i4 i hi]
        by_cases hb : bt ring i = true
        · rw [if_pos ⟨hi, hb⟩, if_pos hb]
        · rw [if_neg (fun q => hb q.2), if_neg hb]
      · rw [if_neg (by rw [le_8 (by omega)]; omega), q_has _ _ (by omega), bnd_s, ite_01, nI_1]
        by_cases hb : bt ring m = true
        · rw [if_pos hb, lenP0, chk_n (by omega) (by omega), st_s, cl_nI (by omega)]
          refine ih (m + 1) _ (by omega) (by omega) ⟨i1, i2, fun c o hc => by rw [wP_co _ _ _ _ _ hc]; exact i3 c o hc, fun i hi => ?_⟩
          rw [wP_1]
          by_cases e2 : i = m
          · rw [if_pos ⟨rfl, rfl, e2⟩, if_pos ⟨by omega, by rw [e2]; exact hb⟩]
          · rw [if_neg (fun q => e2 q.2.2), i4 i hi]
            by_cases h3 : i < m ∧ bt ring i = true
            · rw [if_pos h3, if_pos ⟨by omega, h3.2⟩]
            · rw [if_neg h3, if_neg (fun q => h3 ⟨by omega, q.2⟩)]
        · rw [if_neg hb]
          refine ih (m + 1) _ (by omega) (by omega) ⟨i1, i2, i3, fun i hi => ?_⟩
          rw [i4 i hi]
          by_cases h3 : i < m ∧ bt ring i = true
          · rw [if_pos h3, if_pos ⟨by omega, h3.2⟩]
          · rw [if_neg h3, if_neg (fun q => h3 ⟨by
              by_cases e2 : i = m
              · rw [e2] at q; exact absurd q.2 hb
              · omega, q.2⟩)]
  show ok _ (m_X9_renew_90 w ring 1000 σ0 x r (nI 0))
  exact key 1000 0 σ0 (by omega) (by omega) ⟨rfl, rfl, fun _ _ _ => rfl, fun i hi => by rw [if_neg (fun q => absurd q.1 (by omega))]⟩
/-- a kept result is what would be made -/
def GD (σ : Sg) (r : Nat) : Prop := NE8 (σ.1 30 r 0) ∧ ∃ (τ : Sg) (mc : Nat), WFN τ mc ∧ (∀ m, m < 8 → bt (σ.1 30 r 0) m = true → m < mc ∧ SAMX σ (r + 2) τ 0 m) ∧ AJ (anW τ 0) ∧ (∀ s, s < 128 → σ.2.1 0 r s = if wtR τ (σ.1 30 r 0) 8 s = true then aToS τ 0 (σ.1 30 r 0) s else -3) ∧ ∀ i, i < 128 → inR (σ.1 30 r 0) i = true → σ.2.1 1 r i = ansOf (mkD (nEV (σ.1 30 r 0) (τ.1 26 0) (τ.1 7 0) (anW τ 0))) i
theorem SAMX.c {σ σ' τ : Sg} {t u m : Nat} (h : ∀ c, 26 ≤ c → c ≤ 28 → σ'.1 c t = σ.1 c t) (hS : SAMX σ t τ u m) : SAMX σ' t τ u m := by
  unfold SAMX cnt at *
  rw [h 26 (by omega) (by omega), h 27 (by omega) (by omega), h 28 (by omega) (by omega)]
  exact hS
theorem GD.c {σ σ' : Sg} {r : Nat} (h30 : σ'.1 30 r = σ.1 30 r) (ht : ∀ c, 26 ≤ c → c ≤ 28 → σ'.1 c (r + 2) = σ.1 c (r + 2)) (hj : ∀ c, c ≤ 1 → σ'.2.1 c r = σ.2.1 c r) (hG : GD σ r) : GD σ' r := by
  obtain ⟨hN, τ, mc, a, b, c, d, f⟩ := hG
  refine ⟨by rw [h30]; exact hN, τ, mc, a, ?_, c, ?_, ?_⟩
  · rw [h30]; exact fun m hm hb => ⟨(b m hm hb).1, (b m hm hb).2.c ht⟩
  · rw [h30, hj 0 (by omega)]; exact d
  · rw [h30, hj 1 (by omega)]; exact f
/-- the last results are such -/
def GL (σ : Sg) : Prop := ∀ m, m < 8 → LQ σ 0 m = 0 ∨ GD σ (LQ σ 0 m)
def PL (w r : Nat) : Prop := 20 * w + 1 ≤ r ∧ r < 20 * w + 20
def IW (σ : Sg) (w : Nat) : Prop := LOK σ w ∧ (∀ m, m < 8 → LQ σ w m < 20 * w + 20) ∧ (∃ c, SOK σ w c ∧ ∀ k, k < c → GD σ (KQ σ w k) ∧ PL w (KQ σ w k)) ∧ POOL σ w ∧ CTR σ w ∧ TSI σ w
/-- where a renewal by a works changes things -/
def RNF (w : Nat) (σ σ' : Sg) : Prop := (∀ c o, ¬ (19 ≤ c ∧ c ≤ 25 ∧ o = w) → ¬ (30 ≤ c ∧ c ≤ 36 ∧ PL w o) → ¬ (26 ≤ c ∧ c ≤ 29 ∧ 2 ≤ o ∧ PL w (o - 2)) → σ'.1 c o = σ.1 c o) ∧ (∀ c o, ¬ PL w o → σ'.2.1 c o = σ.2.1 c o) ∧ ∀ c o, ¬ (c ≤ 2 ∧ o = w) → σ'.2.2 c o = σ.2.2 c o
theorem RNF.rf (w : Nat) (σ : Sg) : RNF w σ σ := ⟨fun _ _ _ _ _ => rfl, fun _ _ _ => rfl, fun _ _ _ => rfl⟩
theorem RNF.tr {w : Nat} {a b c : Sg} (h1 : RNF w a b) (h2 : RNF w b c) : RNF w a c := ⟨fun x o p q r => (h2.1 x o p q r).trans (h1.1 x o p q r), fun x o p => (h2.2.1 x o p).trans (h1.2.1 x o p), fun x o p => (h2.2.2 x o p).trans (h1.2.2 x o p)⟩
/-- names, rings, texts 0 and 1 stay -/
theorem RNF.i {w : Nat} {σ σ' : Sg} (h : RNF w σ σ') {c : Nat} (o : Nat) (hc : c ≤ 18) : σ'.1 c o = σ.1 c o := h.1 c o (by omega) (by omega) (by omega)
theorem RNF.t {w : Nat} {σ σ' : Sg} (h : RNF w σ σ') {c o : Nat} (hc : 26 ≤ c ∧ c ≤ 29) (ho : o < 2) : σ'.1 c o = σ.1 c o := h.1 c o (by omega) (by omega) (by omega)
theorem nmC_le {c : Nat} (h : nmC c = true) : c ≤ 12 ∨ (26 ≤ c ∧ c ≤ 28) := by
  unfold nmC at h
  simp only [Bool.or_eq_true, beq_iff_eq] at h
  omega
theorem TX.c {σ σ' : Sg} {t : Nat} (h : ∀ c, 26 ≤ c → c ≤ 28 → σ'.1 c t = σ.1 c t) (hT : TX σ t) : TX σ' t := by
  unfold TX cnt imp at *
  rw [h 26 (by omega) (by omega), h 27 (by omega) (by omega), h 28 (by omega) (by omega)]
  exact hT
theorem RNF.wfn {w mc : Nat} {σ σ' : Sg} (h : RNF w σ σ') (hW : WFN σ mc) : WFN σ' mc := ⟨hW.1.c (fun c h1 h2 => h.t ⟨h1, by omega⟩ (by omega)), hW.2.1, hW.2.2.c (fun c hc => by
  rcases nmC_le hc with q | q
  · exact h.i 0 (by omega)
  · exact h.t ⟨q.1, by omega⟩ (by omega))⟩
theorem RNF.cx {w v : Nat} {σ σ' : Sg} (h : RNF w σ σ') (hv : v < 2) : CXW σ' v = CXW σ v := by
  have e : ∀ n ring s, wtR σ' ring n s = wtR σ ring n s := by
    intro n ring s
    induction n with
    | zero => rfl
    | succ n ih => rw [wtR, wtR, ih]; unfold wtB; rw [h.i 0 (by omega)]
  unfold CXW
  rw [h.i 0 (by omega), h.i 0 (by omega), h.t ⟨by omega, by omega⟩ hv]
  congr 1
  congr 1
  funext ring s
  exact e 8 ring s
theorem RNF.ctr {w v : Nat} {σ σ' : Sg} (h : RNF w σ σ') (hv : v < 2) (hC : CTR σ v) : CTR σ' v := by
  unfold CTR cnt at *
  rw [h.t ⟨by omega, by omega⟩ hv]; exact hC
theorem RNF.tsi {w v : Nat} {σ σ' : Sg} (h : RNF w σ σ') (hv : v < 2) (hC : TSI σ v) : TSI σ' v := by
  unfold TSI at *
  rw [h.t ⟨by omega, by omega⟩ hv, h.t ⟨by omega, by omega⟩ (show 0 < 2 by omega)]; exact hC
