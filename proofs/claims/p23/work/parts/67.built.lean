/-! FAULTS as they stand; the law's isBuilt -/
/-- declared, as it was built; with a fault -/
def dlS (σ : Sg) (s : Nat) : Bool := decide (¬ σ.1 26 (LQ σ 0 (s / 16) + 2) s = 0)
def fyB (σ : Sg) (s : Nat) : Bool := dlS σ s && decide (¬ fld σ 31 s = 0)
theorem VFR.lq {σ σ' : Sg} (h : VFR σ σ') (m : Nat) : LQ σ' 0 m = LQ σ 0 m := by unfold LQ; rw [h.2]
theorem VFR.rf (σ : Sg) : VFR σ σ := ⟨fun _ _ _ => rfl, rfl⟩
theorem VFR.dl {σ σ' : Sg} (h : VFR σ σ') : dlS σ' = dlS σ := by
  funext s; unfold dlS; rw [h.lq, h.1 26 _ (by omega)]
theorem VFR.fy {σ σ' : Sg} (h : VFR σ σ') : fyB σ' = fyB σ := by
  funext s; unfold fyB; rw [h.dl, h.fl 31 (by omega)]
theorem q_faulty {σ : Sg} {s : Nat} (hL : LOK σ 0) (hs : s < 128) : m_X9_isFaulty σ 0 (nI s) = some (if fyB σ s = true then 1 else 0) := by
  obtain ⟨h1, h2⟩ := q_state hL hs
  unfold m_X9_isFaulty
  rw [h1, bnd_s, chk_e (by rw [decide_eq_true_eq]; exact h2), q_decl σ _ hs, bnd_s]
  unfold fyB dlS
  by_cases h : σ.1 26 (LQ σ 0 (s / 16) + 2) s = 0
  · rw [if_pos h, if_pos rfl]; simp [h]
  · rw [if_neg h, if_neg (by decide), chk_n hs (by omega), cl_nI (by omega)]
    by_cases h3 : σ.1 31 (LQ σ 0 (s / 16)) s = 0
    · rw [if_pos h3]; simp [fld, h, h3]
    · rw [if_neg h3]; simp [fld, h, h3]
theorem q_faults {σ : Sg} (hL : LOK σ 0) : m_X9_faultCount σ 0 = some (nI (cntB (fyB σ) 128)) := by
  have key : ∀ n k, k ≤ 128 → 128 - k < n → m_X9_faultCount_4 σ 0 n (nI (cntB (fyB σ) k)) (nI k) = some (nI (cntB (fyB σ) 128)) := by
    intro n
    induction n with
    | zero => intro k _ h; omega
    | succ n ih =>
      intro k hk hn
      rw [m_X9_faultCount_4]
      by_cases h : k = 128
      · subst h
        rw [if_pos (by decide)]
      · rw [if_neg (by rw [le_128 (by omega)]; omega), q_faulty hL (by omega), bnd_s]
        have h2 := ih (k + 1) (by omega) (by omega)
        rw [cntB] at h2
        by_cases h0 : fyB σ k = true
        · rw [if_pos h0, if_neg (by decide), nI_1, nI_1]
          rw [if_pos h0] at h2; exact h2
        · rw [if_neg h0, if_pos rfl, nI_1]
          rw [if_neg h0] at h2; exact h2
  exact key 1000 0 (by omega) (by omega)
theorem q_slotF {σ : Sg} {s : Nat} (hL : LOK σ 0) (hs : s < 128) (hf : fyB σ s = true) : m_X10_slotOfFault σ (nI (cntB (fyB σ) s)) = some (nI s) := by
  have hle := cntB_le (fyB σ)
  have key : ∀ n k, k ≤ s → s - k < n → m_X10_slotOfFault_4 σ (nI (cntB (fyB σ) s)) n (nI (cntB (fyB σ) k)) (nI k) = some (nI s) := by
    intro n
    induction n with
    | zero => intro k _ h; omega
    | succ n ih =>
      intro k hk hn
      have l1 := hle s
      have l2 := hle k
      rw [m_X10_slotOfFault_4, if_neg (by rw [le_128 (by omega)]; omega), q_faulty hL (by omega), bnd_s]
      by_cases h : k = s
      · subst h
        rw [if_pos hf, if_neg (by decide), if_pos rfl]
      · have h2 := ih (k + 1) (by omega) (by omega)
        rw [cntB] at h2
        by_cases h0 : fyB σ k = true
        · have := cntB_lt (fyB σ) (show k < s by omega) h0
          rw [if_pos h0, if_neg (by decide), if_neg (by rw [eq_n (by omega) (by omega)]; omega), nI_1, nI_1]
          rw [if_pos h0] at h2; exact h2
        · rw [if_neg h0, if_pos rfl, nI_1]
          rw [if_neg h0] at h2; exact h2
  exact key 1000 0 (by omega) (by omega)
theorem q_part (σ : Sg) {s : Nat} (hs : s < 128) : m_X10_partOf σ (nI s) 0 = some (nI (s / 16)) ∧ m_X10_partOf σ (nI s) 1 = some (nI (s % 16)) := by
  unfold m_X10_partOf
  refine ⟨?_, ?_⟩
  · rw [if_pos (by rw [ge_0 (by omega)]; trivial), if_pos rfl, dv16 (by omega)]
  · rw [if_pos (by rw [ge_0 (by omega)]; trivial), if_neg (by decide), rem16 (by omega)]
theorem q_fault {σ : Sg} {s : Nat} (hL : LOK σ 0) (hs : s < 128) (hf : fyB σ s = true) : m_X10_fault σ (nI (cntB (fyB σ) s)) 0 = some (fld σ 31 s) ∧ m_X10_fault σ (nI (cntB (fyB σ) s)) 1 = some (nI (s / 16)) ∧ m_X10_fault σ (nI (cntB (fyB σ) s)) 2 = some (nI (s % 16)) := by
  obtain ⟨h1, h2⟩ := q_state hL hs
  unfold m_X10_fault
  rw [q_slotF hL hs hf, bnd_s, bnd_s, bnd_s, if_neg (nI_ne_m1 (by omega)), if_neg (nI_ne_m1 (by omega)), if_neg (nI_ne_m1 (by omega)), q_within σ (by decide) (by decide), bnd_s, q_within σ (by decide) (by decide), bnd_s, q_within σ (by decide) (by decide), bnd_s]
  refine ⟨?_, ?_, ?_⟩
  · rw [if_pos rfl, h1, bnd_s, chk_e (by rw [decide_eq_true_eq]; exact h2), chk_n hs (by omega), cl_nI (by omega)]
    rfl
  · rw [if_neg (by decide), show (1 : Int32) - 1 = 0 from rfl, (q_part σ hs).1, bnd_s]
  · rw [if_neg (by decide), show (2 : Int32) - 1 = 1 from rfl, (q_part σ hs).2, bnd_s]
-- the bit of what is small
theorem sh10 : (((10 : Int32).toInt64 &&& 63).toBitVec.smod 64).toNat = 10 := by decide +kernel
theorem ab_1 : ∀ i, i < 64 → ab 1 i = decide (i = 0) := by decide +kernel
theorem bt_1 : ∀ i, i < 32 → bt 1 i = decide (i = 0) := by decide +kernel
theorem ab_sshr10 (x : Int64) : ab (x >>> ((10 : Int32).toInt64 &&& 63)) 0 = ab x 10 := by
  unfold ab
  rw [Int64.toBitVec_shiftRight]
  show (x.toBitVec.sshiftRight (((10 : Int32).toInt64 &&& 63).toBitVec.smod 64).toNat).getLsbD 0 = _
  rw [sh10, BitVec.getLsbD_sshiftRight]
  simp
theorem bt_i64 (x : Int64) {i : Nat} (hi : i < 32) : bt x.toInt32 i = ab x i := by
  unfold bt ab
  rw [Int64.toBitVec_toInt32, BitVec.getLsbD_signExtend]
  simp [hi, show i < 64 by omega]
theorem q_smallT (σ : Sg) (x : Int64) : m_X0_trait σ x 4 = some (if ab x 10 = true then 1 else 0) := by
  unfold m_X0_trait
  rw [if_neg (by decide), if_neg (by decide), if_pos (by decide)]
  congr 1
  apply b_ext
  intro i hi
  rw [bt_i64 _ hi, ab_and, ab_1 i (by omega), bt_if, bt_1 i hi, b_0]
  by_cases h : i = 0
  · subst h
    rw [ab_sshr10]
    cases ab x 10 <;> simp
  · simp [h]
theorem sf_at {σ : Sg} {s : Nat} (hL : LOK σ 0) (hS : SF σ) (hs : s < 128) : σ.2.1 1 (LQ σ 0 (s / 16)) s = ansOf (own σ (LQ σ 0 (s / 16))) s ∧ SFA (own σ (LQ σ 0 (s / 16))) s := hS _ (hL.q (show s / 16 < 8 by omega)).2 s hs
section BLT
variable {σ : Sg} {mc m n : Nat}
theorem q_built0 (hM : MC σ mc) (hL : LOK σ 0) (hm : m < mc) (hn : n < 16) : m_X10_built σ (nI m) (nI n) 0 = some (if dlS σ (m * 16 + n) = true then fld σ 31 (m * 16 + n) else -1) := by
  have hmc := hM.2
  have hs : m * 16 + n < 128 := by omega
  obtain ⟨h1, h2⟩ := q_state hL hs
  unfold m_X10_built dlS
  rw [q_chkM hM hm, bnd_s, q_w15 σ (by omega), bnd_s, q_within σ (by decide) (by decide), bnd_s, ix16, h1, bnd_s, chk_e (by rw [decide_eq_true_eq]; exact h2), q_decl σ _ hs, bnd_s]
  by_cases h : σ.1 26 (LQ σ 0 ((m * 16 + n) / 16) + 2) (m * 16 + n) = 0
  · rw [if_pos h, if_pos rfl, if_neg (by rw [decide_eq_true_eq]; exact fun z => z h)]
  · rw [if_neg h, if_neg (by decide), if_pos (by decide), chk_n hs (by omega), cl_nI (by omega), if_pos (by rw [decide_eq_true_eq]; exact h)]
    rfl
theorem q_built1 (hM : MC σ mc) (hL : LOK σ 0) (hS : SF σ) (hm : m < mc) (hn : n < 16) (hd : dlS σ (m * 16 + n) = true) : ∃ v, m_X10_built σ (nI m) (nI n) 1 = some v ∧ (v = 1 → ¬ fld σ 33 (m * 16 + n) = 0) := by
  have hmc := hM.2
  have hs : m * 16 + n < 128 := by omega
  obtain ⟨h1, h2⟩ := q_state hL hs
  obtain ⟨a1, _⟩ := sf_at hL hS hs
  unfold dlS at hd
  rw [decide_eq_true_eq] at hd
  unfold m_X10_built
  rw [q_chkM hM hm, bnd_s, q_w15 σ (by omega), bnd_s, q_within σ (by decide) (by decide), bnd_s, ix16, h1, bnd_s, chk_e (by rw [decide_eq_true_eq]; exact h2), q_decl σ _ hs, bnd_s, if_neg hd, if_neg (by decide), if_neg (by decide), if_pos (by decide), chk_n hs (by omega), cl_nI (by omega), q_smallT, bnd_s]
  refine ⟨_, rfl, fun h => ?_⟩
  rw [a1, ansOf_10 _ hs] at h
  intro z
  have z' : own σ (LQ σ 0 ((m * 16 + n) / 16)) 33 (m * 16 + n) = 0 := z
  rw [z', if_neg (by simp)] at h
  exact absurd h (by decide)
theorem q_built2 (hM : MC σ mc) (hL : LOK σ 0) (hm : m < mc) (hn : n < 16) (hd : dlS σ (m * 16 + n) = true) : m_X10_built σ (nI m) (nI n) 2 = some (fld σ 34 (m * 16 + n)) := by
  have hmc := hM.2
  have hs : m * 16 + n < 128 := by omega
  obtain ⟨h1, h2⟩ := q_state hL hs
  unfold dlS at hd
  rw [decide_eq_true_eq] at hd
  unfold m_X10_built
  rw [q_chkM hM hm, bnd_s, q_w15 σ (by omega), bnd_s, q_within σ (by decide) (by decide), bnd_s, ix16, h1, bnd_s, chk_e (by rw [decide_eq_true_eq]; exact h2), q_decl σ _ hs, bnd_s, if_neg hd, if_neg (by decide), if_neg (by decide), if_neg (by decide), if_pos (by decide), chk_n hs (by omega), cl_nI (by omega)]
  rfl
theorem q_built3 (hM : MC σ mc) (hL : LOK σ 0) (hm : m < mc) (hn : n < 16) (hd : dlS σ (m * 16 + n) = true) (h35 : fld σ 35 (m * 16 + n) = -1) (h36 : fld σ 36 (m * 16 + n) = -1) : m_X10_built σ (nI m) (nI n) 3 = some 0 := by
  have hmc := hM.2
  have hs : m * 16 + n < 128 := by omega
  obtain ⟨h1, h2⟩ := q_state hL hs
  unfold dlS at hd
  rw [decide_eq_true_eq] at hd
  unfold m_X10_built m_X5_callCount m_X5_callCount_15
  rw [q_chkM hM hm, bnd_s, q_w15 σ (by omega), bnd_s, q_within σ (by decide) (by decide), bnd_s, ix16, h1, bnd_s, chk_e (by rw [decide_eq_true_eq]; exact h2), q_decl σ _ hs, bnd_s, if_neg hd, if_neg (by decide), if_neg (by decide), if_neg (by decide), if_neg (by decide), if_pos (by decide), chk_n hs (by omega), cl_nI (by omega), if_pos (show σ.1 35 (LQ σ 0 ((m * 16 + n) / 16)) (m * 16 + n) = -1 from h35), chk_n hs (by omega), if_pos (show σ.1 36 (LQ σ 0 ((m * 16 + n) / 16)) (m * 16 + n) = -1 from h36), bnd_s]
  rfl
end BLT
/-- what is taken in, what has a fault -/
theorem run_fault {σ : Sg} {s : Nat} (h : ¬ fld σ 31 s = 0) : runV σ s = -1000000 := by
  unfold runV
  rw [vL, if_pos (Or.inr h)]
theorem run_plain {σ : Sg} {s : Nat} (h31 : fld σ 31 s = 0) (h35 : fld σ 35 s = -1) (h36 : fld σ 36 s = -1) : runV σ s = fld σ 34 s := by
  unfold runV
  rw [vL, if_neg (by rintro (z | z); exact absurd z (by decide); exact z h31)]
  unfold psh
  rw [if_pos h35, if_pos h36, vL, Int32.zero_add]
/-- of modules that are not there nothing was built -/
def MZ (σ : Sg) (mc : Nat) : Prop := ∀ m, mc ≤ m → m < 8 → modW σ 0 m = 0
theorem MZ.dl {σ : Sg} {mc : Nat} (hB : BASE σ mc) (hZ : MZ σ mc) {s : Nat} (h1 : mc * 16 ≤ s) (h2 : s < 128) : dlS σ s = false := by
  have hm : s / 16 < 8 := by omega
  have hz := hZ (s / 16) (by omega) hm
  have hq : LQ σ 0 (s / 16) = 0 := by
    rcases hB.2.2.2.2.2.1 (s / 16) hm with q | q
    · exact q
    · exfalso
      obtain ⟨⟨k, _, hk⟩, _⟩ := q
      have hz' : σ.1 30 (LQ σ 0 (s / 16)) 0 = 0 := hz
      rw [hz', b_0] at hk; cases hk
  unfold dlS
  rw [hq, hB.2.2.2.2.2.2.2.2.2 s h2]
  rfl
theorem cntB_up {p : Nat → Bool} {a : Nat} : ∀ b, a ≤ b → (∀ i, a ≤ i → i < b → p i = false) → cntB p b = cntB p a
  | 0, h, _ => by rw [show a = 0 by omega]
  | b + 1, h, hp => by
    by_cases e : a = b + 1
    · rw [e]
    · rw [cntB, hp b (by omega) (by omega), cntB_up b (by omega) (fun i h1 h2 => hp i h1 (by omega))]; rfl
theorem FV.pos {x : Int32} (h : FV x) : (0 : Int32) ≤ x ∧ (x ≤ 0 ↔ x = 0) := by
  rcases h with rfl | rfl | rfl | rfl | rfl | rfl <;> exact ⟨by decide, by decide⟩
