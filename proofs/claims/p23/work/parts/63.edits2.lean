/-! EDITS, on: a module, a declaration, an import more or less -/
theorem s_module {σ : Sg} {mc : Nat} (hL : LI σ mc) (hmc : mc < 8) : ok (fun q => LI q.1 (mc + 1) ∧ q.2 = nI mc) (m_X10_module σ) := by
  obtain ⟨hB, hD⟩ := hL
  have hM := hB.2.1
  unfold m_X10_module
  rw [hM.1, if_pos (by rw [show (8 : Int32) = nI 8 from rfl, lt_n (by omega) (by omega)]; exact hmc), st_s, nI_1]
  have hTX : TX (wI σ 29 0 0 (nI (mc + 1))) 0 := hB.1.1.c (fun c h1 h2 => wI_co _ _ _ _ _ (by omega))
  refine ok_b (s_settle (mc := mc + 1) hTX ⟨wI_s _ _ _ _ _, by omega⟩) (fun σ1 h1 => ?_)
  obtain ⟨g1, g2, g3, g4, g5⟩ := h1
  have hE : EDF σ σ1 := (EDF.w σ _ _ (by omega)).tr g1
  refine ok_r ⟨⟨hB.ed hE g3 g4 g5, fun m hm => ?_⟩, ?_⟩
  · have e0 : cntD σ1 0 m = cntD σ 0 m := cntD_c (by rw [g2 26 (by omega) (by omega)]; exact wI_co _ _ _ _ _ (by omega))
    show cntD σ1 0 m ≤ 6
    rw [e0]; exact hD m hm
  · show σ1.1 29 0 0 - 1 = nI mc
    rw [g4.1, sub_1 (by omega), show mc + 1 - 1 = mc by omega]
/-- the bits of a declaration that is told -/
theorem b_sm {a k i : Nat} (ha : a < 2 ^ k) (hk : k ≤ i) (hi : i < 32) : bt (nI a) i = false := by
  rw [bt_nI a i hi]
  exact Nat.testBit_lt_two_pow (Nat.lt_of_lt_of_le ha (Nat.pow_le_pow_right (by omega) hk))
def dclV (k b n p q : Nat) : Int32 := ((((nI 1 ||| (nI k <<< (nI 1 &&& 31))) ||| nI b) ||| (nI n <<< (nI 3 &&& 31))) ||| (nI p <<< (nI 11 &&& 31))) ||| (nI q <<< (nI 16 &&& 31))
theorem dcl_ne {k b n p q : Nat} : ¬ dclV k b n p q = 0 := by
  intro h
  have := bt_zero.mp h 0 (by omega)
  unfold dclV at this
  rw [b_or, b_or, b_or, b_or, b_or, bt_nI 1 0 (by omega)] at this
  simp at this
theorem dcl_bit {k b n p q i : Nat} (hk : k ≤ 1) (hb : b ≤ 4) (hn : n < 256) (hi : i < 32) (h11 : 11 ≤ i) : bt (dclV k b n p q) i = ((decide (11 ≤ i) && bt (nI p) (i - 11)) || (decide (16 ≤ i) && bt (nI q) (i - 16))) := by
  unfold dclV
  rw [b_or, b_or, b_or, b_or, b_or, b_shl 1 (by omega) _ hi, b_shl 3 (by omega) _ hi, b_shl 11 (by omega) _ hi, b_shl 16 (by omega) _ hi, b_sm (k := 1) (by omega) (by omega) hi, b_sm (a := b) (k := 3) (by omega) (by omega) hi, b_sm (a := k) (k := 1) (by omega) (by omega) (by omega), b_sm (a := n) (k := 8) (by omega) (by omega) (by omega)]
  simp
theorem mod5 {x : Int32} {v : Nat} (hv : v < 32) (h : ∀ i, i < 5 → bt x i = v.testBit i) : x.toBitVec.toNat % 2 ^ 5 = v := by
  apply Nat.eq_of_testBit_eq
  intro i
  rw [Nat.testBit_mod_two_pow]
  by_cases hi : i < 5
  · rw [decide_eq_true hi, Bool.true_and]
    exact h i hi
  · rw [decide_eq_false hi, Bool.false_and]
    exact (Nat.testBit_lt_two_pow (Nat.lt_of_lt_of_le hv (show 2 ^ 5 ≤ 2 ^ i from Nat.pow_le_pow_right (by omega) (by omega)))).symm
theorem dcl_ref {k b n p q : Nat} (hk : k ≤ 1) (hb : b ≤ 4) (hn : n < 256) (hp : p ≤ 16) (hq : q ≤ 16) : refN (dclV k b n p q) 0 = p ∧ refN (dclV k b n p q) 1 = q := by
  unfold refN
  rw [if_pos rfl, if_neg (by decide)]
  refine ⟨mod5 (by omega) (fun i hi => ?_), mod5 (by omega) (fun i hi => ?_)⟩
  · show bt (dclV k b n p q >>> (nI 11 &&& 31)) i = _
    rw [b_sshr 11 (by omega) _ (by omega), if_pos (by omega), dcl_bit hk hb hn (by omega) (by omega), bt_nI _ _ (by omega), decide_eq_true (by omega), decide_eq_false (show ¬ 16 ≤ 11 + i by omega), show 11 + i - 11 = i by omega]
    simp
  · show bt (dclV k b n p q >>> (nI 16 &&& 31)) i = _
    rw [b_sshr 16 (by omega) _ (by omega), if_pos (by omega), dcl_bit hk hb hn (by omega) (by omega), b_sm (a := p) (k := 5) (by omega) (by omega) (by omega), bt_nI _ _ (by omega), decide_eq_true (show 16 ≤ 16 + i by omega), show 16 + i - 16 = i by omega]
    simp
/-- a name or none, as a number -/
def nmI (p : Nat) : Int32 := if p = 0 then -1 else nI (p - 1)
theorem nmI_1 {p : Nat} : nmI p + 1 = nI p := by
  unfold nmI
  by_cases h : p = 0
  · rw [if_pos h, h]; rfl
  · rw [if_neg h, nI_1, show p - 1 + 1 = p by omega]
theorem q_wn (σ : Sg) {p : Nat} (hp : p ≤ 16) : m_X10_checkWithin σ (nmI p) (-1) 15 = some () := by
  unfold nmI
  by_cases h : p = 0
  · rw [if_pos h]; exact q_within σ (by decide) (by decide)
  · rw [if_neg h]
    refine q_within σ (fun q => ?_) (by rw [show (15 : Int32) = nI 15 from rfl, le_n (by omega) (by omega)]; omega)
    rw [Int32.lt_iff_toInt_lt, nI_toInt (by omega)] at q
    have h2 : ((-1 : Int32)).toInt = -1 := by decide
    omega
theorem q_dclOf (σ : Sg) {k b p q : Nat} {x4 n : Int32} (hb : b = if x4 = 0 then 0 else 4) {nn : Nat} (hn : n + 99 = nI nn) : m_X1_of σ (nI k) x4 n (nmI p) (nmI q) = some (dclV k b nn p q) := by
  unfold m_X1_of m_X1_of_14
  rw [nmI_1, nmI_1, hn]
  by_cases h : x4 = 0
  · rw [if_pos h, hb, if_pos h]; rfl
  · rw [if_neg h, hb, if_neg h]; rfl
theorem s_declare {σ : Sg} {mc m nm k p q nn : Nat} {x4 n : Int32} (hL : LI σ mc) (hm : m < mc) (hn : nm < 16) (hk : k ≤ 1) (hnn : nn < 256) (hn1 : n + 99 = nI nn) (hn2 : m_X10_checkWithin σ n (-99) 99 = some ()) (hp : p ≤ 16) (hq : q ≤ 16) (h6 : ¬ cntD σ 0 m = 6) : ok (fun r => LI r.1 mc ∧ EDF σ r.1 ∧ ∃ c, 1 ≤ c ∧ c ≤ 6 ∧ r.2 = nI c) (m_X10_declare σ (nI m) (nI nm) (nI k) x4 n (nmI p) (nmI q)) := by
  obtain ⟨hB, hD⟩ := hL
  have hM := hB.2.1
  have hmc := hM.2
  have h6' := hD m (by omega)
  have k86 : ok (fun r => LI r.1 mc ∧ EDF σ r.1 ∧ ∃ c, 1 ≤ c ∧ c ≤ 6 ∧ r.2 = nI c) (m_X10_declare_86 (nI m) (nI nm) (nI k) x4 n (nmI p) (nmI q) σ (nI (m * 16 + nm))) := by
    unfold m_X10_declare_86
    rw [q_dclOf σ (b := if x4 = 0 then 0 else 4) rfl hn1, bnd_s, chk_n (by omega) (by omega), st_s, cl_nI (by omega)]
    have hb : (if x4 = 0 then 0 else 4 : Nat) ≤ 4 := by split <;> omega
    generalize (if x4 = 0 then 0 else 4 : Nat) = b at *
    have hne := dcl_ne (k := k) (b := b) (n := nn) (p := p) (q := q)
    obtain ⟨hr0, hr1⟩ := dcl_ref hk hb hnn hp hq
    generalize dclV k b nn p q = v at *
    have hTX : TX (wI σ 26 0 (m * 16 + nm) v) 0 := by
      obtain ⟨t1, t2, t3⟩ := hB.1.1
      refine ⟨t1, t2, fun s hs h0 => ?_⟩
      rw [wI_1] at h0 ⊢
      by_cases e : s = m * 16 + nm
      · rw [if_pos ⟨rfl, rfl, e⟩, hr0, hr1]; exact ⟨hp, hq⟩
      · rw [if_neg (fun q => e q.2.2)] at h0 ⊢; exact t3 s hs h0
    refine ok_b (s_settle (mc := mc) hTX ⟨hM.1, hM.2⟩) (fun σ1 h1 => ?_)
    obtain ⟨g1, g2, g3, g4, g5⟩ := h1
    have hE : EDF σ σ1 := (EDF.w σ _ _ (by omega)).tr g1
    have hd : ∀ m', m' < 8 → cntD σ1 0 m' + (if m' = m ∧ ¬ σ.1 26 0 (m * 16 + nm) = 0 then 1 else 0) = cntD σ 0 m' + (if m' = m then 1 else 0) := fun m' hm' => by
      have := cntD_w (σ := σ) (m := m) (nm := nm) (by omega) hn v hm'
      have e0 : cntD σ1 0 m' = cntD (wI σ 26 0 (m * 16 + nm) v) 0 m' := cntD_c (by rw [g2 26 (by omega) (by omega)])
      rw [e0, this]
      by_cases e : m' = m
      · rw [if_pos ⟨e, hne⟩, if_pos e]
      · rw [if_neg (fun q => e q.1), if_neg e]
    have h1 : 1 ≤ cntD σ1 0 m := by
      have hpos : ∀ n, nm < n → 1 ≤ cntB (fun k => isD σ1 0 (m * 16 + k)) n := by
        intro n hn
        have h1 : isD σ1 0 (m * 16 + nm) = true := by
          unfold isD
          rw [g2 26 (by omega) (by omega), wI_s, decide_eq_true_eq]; exact hne
        have := cntB_lt (fun k => isD σ1 0 (m * 16 + k)) hn h1
        omega
      exact hpos 16 hn
    have h2 : ∀ m', m' < 8 → cntD σ1 0 m' ≤ 6 := fun m' hm' => by
      have a := hd m' hm'
      have b := hD m' hm'
      by_cases e : m' = m
      · rw [if_pos e] at a
        subst e
        split at a <;> omega
      · rw [if_neg e, if_neg (fun q => e q.1)] at a
        omega
    rw [q_declOf σ1 0 (by omega), bnd_s]
    exact ok_r ⟨⟨hB.ed hE g3 g4 g5, h2⟩, hE, cntD σ1 0 m, h1, h2 m (by omega), rfl⟩
  unfold m_X10_declare
  rw [q_chkM hM hm, bnd_s, q_w15 σ (by omega), bnd_s, q_w1 σ hk, bnd_s, hn2, bnd_s, q_wn σ hp, bnd_s, q_wn σ hq, bnd_s, ix16, q_decl σ 0 (by omega), bnd_s]
  by_cases h0 : σ.1 26 0 (m * 16 + nm) = 0
  · rw [if_pos (if_pos h0), q_declOf σ 0 (by omega), bnd_s, if_pos (by rw [show (6 : Int32) = nI 6 from rfl, lt_n (by omega) (by omega)]; omega)]
    exact k86
  · rw [if_neg (by rw [if_neg h0]; decide)]
    exact k86
