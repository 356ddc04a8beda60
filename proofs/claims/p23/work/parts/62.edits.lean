/-! EDITS: the names and rings are laid anew, the works stay -/
def EDF (σ σ' : Sg) : Prop := (∀ c o, ¬ (6 ≤ c ∧ c ≤ 18) → ¬ (26 ≤ c ∧ c ≤ 29 ∧ o = 0) → σ'.1 c o = σ.1 c o) ∧ σ'.2 = σ.2
theorem EDF.tr {a b c : Sg} (h1 : EDF a b) (h2 : EDF b c) : EDF a c := ⟨fun x o p q => (h2.1 x o p q).trans (h1.1 x o p q), h2.2.trans h1.2⟩
theorem EDF.w (σ : Sg) {c : Nat} (i : Nat) (v : Int32) (h : 26 ≤ c ∧ c ≤ 29) : EDF σ (wI σ c 0 i v) := ⟨fun x o _ hx => wI_co σ c 0 i v (fun q => hx ⟨by omega, by omega, q.2⟩), rfl⟩
theorem s_settle {σ : Sg} {mc : Nat} (hT : TX σ 0) (hM : MC σ mc) : ok (fun σ' => EDF σ σ' ∧ (∀ c, 26 ≤ c → c ≤ 29 → σ'.1 c = σ.1 c) ∧ WFN σ' mc ∧ MC σ' mc ∧ RGS σ' mc) (m_X10_settle σ) := by
  unfold m_X10_settle
  refine ok_b (s_names hT hM) (fun σ1 h1 => ?_)
  obtain ⟨f1, n1⟩ := h1
  have e1 : ∀ c, 13 ≤ c → σ1.1 c = σ.1 c := fun c hc => f1.1 c (fun z => by simp at z; omega)
  have hT1 : TX σ1 0 := hT.c (fun c h1 h2 => by rw [e1 c (by omega)])
  have hM1 : MC σ1 mc := ⟨by rw [e1 29 (by omega)]; exact hM.1, hM.2⟩
  refine ok_b (s_rings hT1 hM1) (fun σ2 h2 => ?_)
  obtain ⟨f2, n2⟩ := h2
  have e2 : ∀ c, ¬ (13 ≤ c ∧ c ≤ 18) → σ2.1 c = σ1.1 c := fun c hc => f2.1 c (fun z => by simp at z; omega)
  refine ok_r ⟨⟨fun c o h1 _ => ?_, by rw [f2.2, f1.2]⟩, fun c h1 h2 => by rw [e2 c (by omega), e1 c (by omega)], ⟨hT1.c (fun c h1 h2 => by rw [e2 c (by omega)]), hM.2, n1.c (fun c hc => ?_)⟩, ⟨by rw [e2 29 (by omega)]; exact hM1.1, hM.2⟩, n2⟩
  · by_cases h6 : c < 6
    · rw [e2 c (by omega), f1.1 c (fun z => by simp at z; omega)]
    · rw [e2 c (by omega), e1 c (by omega)]
  · have := nmC_le hc
    rw [e2 c (by omega)]
theorem BASE.ed {σ σ' : Sg} {mc mc' : Nat} (hB : BASE σ mc) (h : EDF σ σ') (hW : WFN σ' mc') (hM : MC σ' mc') (hR : RGS σ' mc') : BASE σ' mc' := by
  obtain ⟨_, _, _, hS, hI, hG, h19, hP, hU⟩ := hB
  have hl : ∀ w m, LQ σ' w m = LQ σ w m := fun w m => by unfold LQ; rw [h.2]
  have gd : ∀ r, GD σ r → GD σ' r := fun r g => g.c (h.1 30 r (by omega) (by omega)) (fun x h1 h2 => h.1 x (r + 2) (by omega) (by omega)) (fun x _ => by rw [h.2])
  refine ⟨hW, hM, hR, fun r hr i hi => ?_, ?_, fun m hm => ?_, by rw [h.1 19 1 (by omega) (by omega)]; exact h19, fun k hk => by rw [h.2]; exact hP k hk, ?_⟩
  · obtain ⟨x1, x2⟩ := hS r hr i hi
    have e : ∀ c, 31 ≤ c → c ≤ 36 → own σ r c i = own σ' r c i := fun c h1 h2 => by unfold own; rw [h.1 c r (by omega) (by omega)]
    rw [h.2]
    exact ⟨x1.trans (ansOf_c e), SFA_c e x2⟩
  · obtain ⟨i1, i2, ⟨c, ⟨s1, s2, s3⟩, i3⟩, i4, i5, i6⟩ := hI
    refine ⟨fun m hm => by rw [h.2]; exact i1 m hm, fun m hm => by rw [hl]; exact i2 m hm, ⟨c, ⟨by rw [h.1 19 0 (by omega) (by omega)]; exact s1, s2, fun k hk => by rw [h.2]; exact s3 k hk⟩, fun k hk => ?_⟩, fun k hk => by rw [h.2]; exact i4 k hk, hW.1.1, TSI.z _⟩
    have e : KQ σ' 0 k = KQ σ 0 k := by unfold KQ; rw [h.2]
    rw [e]
    exact ⟨gd _ (i3 k hk).1, (i3 k hk).2⟩
  · rw [hl]
    rcases hG m hm with e | e
    · exact Or.inl e
    · exact Or.inr (gd _ e)
  · exact ⟨by rw [h.1 30 0 (by omega) (by omega)]; exact hU.1, by rw [h.1 26 2 (by omega) (by omega)]; exact hU.2⟩
/-- between the law's calls -/
def LI (σ : Sg) (mc : Nat) : Prop := BASE σ mc ∧ ∀ m, m < 8 → cntD σ 0 m ≤ 6
theorem cntD_c {σ σ' : Sg} {t m : Nat} (h : σ'.1 26 t = σ.1 26 t) : cntD σ' t m = cntD σ t m := by unfold cntD isD; rw [h]
theorem q_chkM {σ : Sg} {mc m : Nat} (hM : MC σ mc) (hm : m < mc) : m_X10_checkModule σ (nI m) = some () := by
  have := hM.2
  unfold m_X10_checkModule
  rw [if_neg (by rw [ltz (by omega)]; exact id), hM.1, if_pos (by rw [lt_n (by omega) (by omega)]; exact hm)]
theorem q_wi (σ : Sg) {x b : Nat} (hx : x ≤ b) (hb : b < 2147483648) : m_X10_checkWithin σ (nI x) 0 (nI b) = some () := q_within σ (by rw [ltz (by omega)]; exact id) (by rw [le_n (by omega) (by omega)]; exact hx)
theorem q_w15 (σ : Sg) {x : Nat} (hx : x ≤ 15) : m_X10_checkWithin σ (nI x) 0 15 = some () := q_wi σ (b := 15) hx (by decide)
theorem q_w7 (σ : Sg) {x : Nat} (hx : x ≤ 7) : m_X10_checkWithin σ (nI x) 0 7 = some () := q_wi σ (b := 7) hx (by decide)
theorem q_w5 (σ : Sg) {x : Nat} (hx : x ≤ 5) : m_X10_checkWithin σ (nI x) 0 5 = some () := q_wi σ (b := 5) hx (by decide)
theorem q_w1 (σ : Sg) {x : Nat} (hx : x ≤ 1) : m_X10_checkWithin σ (nI x) 0 1 = some () := q_wi σ (b := 1) hx (by decide)
theorem q_ofMod0 {σ : Sg} {mc m : Nat} (hM : MC σ mc) (hm : m < mc) : m_X10_ofModule σ (nI m) 0 = some (nI (cntD σ 0 m)) := by
  have := hM.2
  unfold m_X10_ofModule
  rw [q_chkM hM hm, bnd_s, show (0 : Int32) = nI 0 from rfl, show (8 : Int32) = nI 8 from rfl, q_within σ (by decide) (by decide), bnd_s, chk_n (by omega) (by omega), if_pos (by decide), q_declOf σ 0 (by omega)]
  rfl
theorem q_ofMod1 {σ : Sg} {mc m : Nat} (hM : MC σ mc) (hm : m < mc) : m_X10_ofModule σ (nI m) 1 = some (σ.1 28 0 m) := by
  have := hM.2
  unfold m_X10_ofModule
  rw [q_chkM hM hm, bnd_s, q_within σ (by decide) (by decide), bnd_s, chk_n (by omega) (by omega), if_neg (by decide), if_pos (by decide), chk_n (by omega) (by omega), cl_nI (by omega)]
theorem cntB_upd {p q : Nat → Bool} {n : Nat} : ∀ k, n < k → (∀ i, i < k → ¬ i = n → q i = p i) → cntB q k + (if p n = true then 1 else 0) = cntB p k + (if q n = true then 1 else 0)
  | 0, h, _ => absurd h (by omega)
  | k + 1, h, hq => by
    rw [cntB, cntB]
    by_cases e : n = k
    · subst e
      rw [cntB_congr (p := q) (q := p) n (fun i hi => hq i (by omega) (by omega))]
      omega
    · have := cntB_upd (p := p) (q := q) k (by omega) (fun i hi hne => hq i (by omega) hne)
      rw [hq k (by omega) (fun z => e z.symm)]
      omega
/-- a declaration written -/
theorem cntD_w {σ : Sg} {m nm : Nat} (hm : m < 8) (hn : nm < 16) (v : Int32) {m' : Nat} (hm' : m' < 8) : cntD (wI σ 26 0 (m * 16 + nm) v) 0 m' + (if m' = m ∧ ¬ σ.1 26 0 (m * 16 + nm) = 0 then 1 else 0) = cntD σ 0 m' + (if m' = m ∧ ¬ v = 0 then 1 else 0) := by
  by_cases e : m' = m
  · subst e
    have h := cntB_upd (p := fun k => isD σ 0 (m' * 16 + k)) (q := fun k => isD (wI σ 26 0 (m' * 16 + nm) v) 0 (m' * 16 + k)) (n := nm) 16 hn (fun i hi hne => by
      show decide (¬ (wI σ 26 0 (m' * 16 + nm) v).1 26 0 (m' * 16 + i) = 0) = decide (¬ σ.1 26 0 (m' * 16 + i) = 0)
      rw [wI_1, if_neg (by omega)])
    have e1 : (isD (wI σ 26 0 (m' * 16 + nm) v) 0 (m' * 16 + nm) = true) ↔ ¬ v = 0 := by
      unfold isD
      rw [wI_s, decide_eq_true_eq]
    have e2 : (isD σ 0 (m' * 16 + nm) = true) ↔ ¬ σ.1 26 0 (m' * 16 + nm) = 0 := by unfold isD; rw [decide_eq_true_eq]
    unfold cntD
    simp only [e1, e2] at h
    simp only [true_and]
    exact h
  · rw [if_neg (fun q => e q.1), if_neg (fun q => e q.1)]
    unfold cntD
    rw [cntB_congr 16 (fun i hi => ?_)]
    show decide (¬ (wI σ 26 0 (m * 16 + nm) v).1 26 0 (m' * 16 + i) = 0) = decide (¬ σ.1 26 0 (m' * 16 + i) = 0)
    rw [wI_1, if_neg (by omega)]
theorem s_drop {σ : Sg} {mc m nm : Nat} (hL : LI σ mc) (hm : m < mc) (hn : nm < 16) : ok (fun q => LI q.1 mc ∧ EDF σ q.1 ∧ ((q.2 = 0 ∧ cntD q.1 0 m = cntD σ 0 m) ∨ (q.2 = 1 ∧ cntD q.1 0 m + 1 = cntD σ 0 m))) (m_X10_drop σ (nI m) (nI nm)) := by
  obtain ⟨hB, hD⟩ := hL
  have hM := hB.2.1
  have hmc := hM.2
  unfold m_X10_drop
  rw [q_chkM hM hm, bnd_s, q_w15 σ (by omega), bnd_s, ix16, q_decl σ 0 (by omega), bnd_s, chk_n (by omega) (by omega), st_s, cl_nI (by omega)]
  have hTX : TX (wI σ 26 0 (m * 16 + nm) 0) 0 := by
    obtain ⟨t1, t2, t3⟩ := hB.1.1
    refine ⟨t1, t2, fun s hs h0 => ?_⟩
    rw [wI_1] at h0 ⊢
    by_cases e : s = m * 16 + nm
    · rw [if_pos ⟨rfl, rfl, e⟩] at h0; exact absurd rfl h0
    · rw [if_neg (fun q => e q.2.2)] at h0 ⊢; exact t3 s hs h0
  refine ok_b (s_settle (mc := mc) hTX ⟨hM.1, hM.2⟩) (fun σ1 h1 => ?_)
  obtain ⟨g1, g2, g3, g4, g5⟩ := h1
  have hE : EDF σ σ1 := (EDF.w σ _ _ (by omega)).tr g1
  have hd : ∀ m', m' < 8 → cntD σ1 0 m' + (if m' = m ∧ ¬ σ.1 26 0 (m * 16 + nm) = 0 then 1 else 0) = cntD σ 0 m' := fun m' hm' => by
    have := cntD_w (σ := σ) (m := m) (nm := nm) (by omega) hn 0 hm'
    have e0 : cntD σ1 0 m' = cntD (wI σ 26 0 (m * 16 + nm) 0) 0 m' := cntD_c (by rw [g2 26 (by omega) (by omega)])
    rw [e0, this, if_neg (fun q => q.2 rfl)]
    rfl
  have hzb : zb (if σ.1 26 0 (m * 16 + nm) = 0 then 0 else 1) = true := by split <;> decide
  rw [chk_e hzb]
  refine ok_r ⟨⟨hB.ed hE g3 g4 g5, fun m' hm' => ?_⟩, hE, ?_⟩
  · have := hd m' hm'
    have := hD m' hm'
    show cntD σ1 0 m' ≤ 6
    omega
  · have := hd m (by omega)
    by_cases h0 : σ.1 26 0 (m * 16 + nm) = 0
    · rw [if_neg (fun q => q.2 h0)] at this
      exact Or.inl ⟨if_pos h0, this⟩
    · rw [if_pos ⟨rfl, h0⟩] at this
      exact Or.inr ⟨if_neg h0, this⟩
