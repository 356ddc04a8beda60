/-! MAKER: faults spread, what is plain -/
/-- the run's state: what is given, made, the members -/
def STT (e : EV) (D : Nat → Nat → Int32) (σ0 σ : Sg) (w r : Nat) : Prop := MF w r σ0 σ ∧ OWN D σ r ∧ MEMS e σ w ∧ σ.2 = σ0.2
def b01 (b : Bool) : Int32 := if b = true then 1 else 0
theorem b01_0 (b : Bool) : b01 b = 0 ↔ b = false := by cases b <;> decide
def zer (D : Nat → Nat → Int32) (c : Nat) : Nat := cntB (fun i => decide (D c i = 0)) 128
theorem zer_le (D : Nat → Nat → Int32) (c : Nat) : zer D c ≤ 128 := cntB_le _ _
theorem zer_lt {D D' : Nat → Nat → Int32} {c i : Nat} (hi : i < 128) (h0 : D c i = 0) (h1 : ¬ D' c i = 0) (h : ∀ j, D' c j = D c j ∨ (D c j = 0 ∧ ¬ D' c j = 0)) : zer D' c + 1 ≤ zer D c := by
  have hle : ∀ n, cntB (fun j => decide (D' c j = 0) || decide (j = i)) n ≤ cntB (fun j => decide (D c j = 0)) n := by
    intro n
    induction n with
    | zero => exact Nat.le_refl _
    | succ n ih =>
      rw [cntB, cntB]
      have : (decide (D' c n = 0) || decide (n = i)) = true → decide (D c n = 0) = true := by
        intro q
        simp only [Bool.or_eq_true, decide_eq_true_eq] at q ⊢
        rcases q with q | q
        · rcases h n with z | z
          · rw [← z]; exact q
          · exact z.1
        · rw [q]; exact h0
      by_cases q : (decide (D' c n = 0) || decide (n = i)) = true
      · rw [if_pos q, if_pos (this q)]; omega
      · rw [if_neg q]; split <;> omega
  have hadd := cntB_add (p := fun j => decide (D' c j = 0)) (q := fun j => decide (D' c j = 0) || decide (j = i)) (z := i) (by simp [h1]) 128 hi (fun _ _ => rfl)
  have := hle 128
  unfold zer
  omega
def stab (e : EV) (D : Nat → Nat → Int32) (i : Nat) : Prop := D 31 i = 0 → fltB e D (e.T i 0) = false ∧ fltB e D (e.T i 1) = false
theorem mem_inj {e : EV} {i j : Nat} (hi : e.mem i = true) (hj : e.mem j = true) (h : cntB e.mem i = cntB e.mem j) : i = j := by
  rcases Nat.lt_trichotomy i j with z | z | z
  · have := cntB_lt e.mem z hi; omega
  · exact z
  · have := cntB_lt e.mem z hj; omega
/-- what one sweep of faults may do -/
def SW (e : EV) (D D' : Nat → Nat → Int32) : Prop := (∀ c i, ¬ c = 31 → D' c i = D c i) ∧ ∀ i, D' 31 i = D 31 i ∨ (D 31 i = 0 ∧ D' 31 i = 5 ∧ e.mem i = true ∧ i < 128)
theorem SW.tr {e : EV} {A B C : Nat → Nat → Int32} (h1 : SW e A B) (h2 : SW e B C) : SW e A C := ⟨fun c i hc => (h2.1 c i hc).trans (h1.1 c i hc), fun i => by
  rcases h2.2 i with q | ⟨q1, q2, q3, q4⟩
  · rw [q]; exact h1.2 i
  · rcases h1.2 i with z | ⟨z1, z2, _, _⟩
    · exact Or.inr ⟨by rw [← z]; exact q1, q2, q3, q4⟩
    · rw [z2] at q1; exact absurd q1 (by decide)⟩
theorem sp_sweep {e : EV} (hV : EOK e) : ∀ d k, k + d = cntB e.mem 128 → ∀ (D : Nat → Nat → Int32) (mv : Bool), ∃ (D' : Nat → Nat → Int32) (mv' : Bool), SW e D D' ∧ (mv' = false → mv = false ∧ D' = D ∧ ∀ i, i < 128 → e.mem i = true → k ≤ cntB e.mem i → stab e D i) ∧ (mv = false → mv' = true → ∃ i, i < 128 ∧ D 31 i = 0 ∧ ¬ D' 31 i = 0) ∧
    ∀ (σ0 σ : Sg) (w r : Nat), w < 2 → ER e σ0 w r → STT e D σ0 σ w r → ∀ (k4 : Sg → Int32 → Int32 → Option Sg) (n : Nat) (x3 : Int32), d < n → ∃ σ', STT e D' σ0 σ' w r ∧ m_X3_spreadFaults_20 w r k4 n σ (b01 mv) x3 (nI k) = k4 σ' (b01 mv') (x3 + 1) := by
  have hc128 : cntB e.mem 128 ≤ 128 := cntB_le _ _
  intro d
  induction d with
  | zero =>
    intro k hk D mv
    refine ⟨D, mv, ⟨fun _ _ _ => rfl, fun _ => Or.inl rfl⟩, fun h => ⟨h, rfl, fun i hi hm hki => ?_⟩, fun h1 h2 => (by rw [h1] at h2; cases h2), fun σ0 σ w r hw hE hS k4 n x3 hn => ⟨σ, hS, ?_⟩⟩
    · have := cntB_lt e.mem hi hm; omega
    · obtain ⟨n, rfl⟩ : ∃ z, n = z + 1 := ⟨n - 1, by omega⟩
      rw [m_X3_spreadFaults_20, hS.2.2.1.1, if_pos (by rw [nI_leI (by omega) (by omega)]; omega)]
  | succ d ih =>
    intro k hk D mv
    obtain ⟨i, hi, hmi, hci⟩ := cnt_at e.mem 128 k (by omega)
    by_cases hch : D 31 i = 0 ∧ (fltB e D (e.T i 0) = true ∨ fltB e D (e.T i 1) = true)
    · obtain ⟨D', mv', g1, g2, g3, g4⟩ := ih (k + 1) (by omega) (updD D 31 i 5) true
      have hup : SW e D (updD D 31 i 5) := ⟨fun c j hc => by unfold updD; rw [if_neg (fun q => hc q.1)], fun j => by
        by_cases e2 : j = i
        · subst e2; exact Or.inr ⟨hch.1, by unfold updD; simp, hmi, hi⟩
        · exact Or.inl (by unfold updD; simp [e2])⟩
      refine ⟨D', mv', hup.tr g1, fun h => ?_, fun h1 h2 => ⟨i, hi, hch.1, ?_⟩, fun σ0 σ w r hw hE hS k4 n x3 hn => ?_⟩
      · have := (g2 h).1; cases this
      · have h5 : updD D 31 i 5 31 i = 5 := by unfold updD; simp
        rcases g1.2 i with q | ⟨q1, q2, _⟩
        · rw [q, h5]; decide
        · rw [h5] at q1; exact absurd q1 (by decide)
      · obtain ⟨n, rfl⟩ : ∃ z, n = z + 1 := ⟨n - 1, by omega⟩
        obtain ⟨hF, hO, hM, h2⟩ := hS
        have hEs := hE.f hF
        have h21 := hM.2.1 i hi hmi
        rw [hci] at h21
        have ht0 := hM.2.2 i 0 hi hmi (by omega)
        have ht1 := hM.2.2 i 1 hi hmi (by omega)
        have h31 : σ.1 31 r i = D 31 i := hO 31 i (by omega) (by omega) hi
        have hS' : STT e (updD D 31 i 5) σ0 (wI σ 31 r i 5) w r := ⟨hF.tr (MF.w _ _ _ (Or.inr ⟨by omega, by omega, rfl⟩)), hO.w 31 i 5, hM.f (wI_co _ _ _ _ _ (by omega)) (wI_co _ _ _ _ _ (by omega)) (wI_co _ _ _ _ _ (by omega)), h2⟩
        obtain ⟨σ', k1, k2⟩ := g4 σ0 _ w r hw hE hS' k4 n x3 (by omega)
        refine ⟨σ', k1, ?_⟩
        have hgo : m_X3_spreadFaults_82 w r k4 (m_X3_spreadFaults_20 w r k4 n) σ x3 (nI k) (nI i) = k4 σ' (b01 mv') (x3 + 1) := by
          unfold m_X3_spreadFaults_82
          rw [chk_n (by omega) (by omega), cl_nI (by omega), nI_1]
          exact k2
        rw [m_X3_spreadFaults_20, hM.1, if_neg (by rw [nI_leI (by omega) (by omega)]; omega), chk_n (by omega) (by omega), cl_nI (by omega), h21, chk_n (by omega) (by omega), cl_nI (by omega), h31, if_pos hch.1, ix2, chk_n (by omega) (by omega), cl_nI (by omega), show 2 * i = 2 * i + 0 from rfl, ht0, q_isFaulty hV hEs hO hw hi hmi (by omega), bnd_s, ite_01]
        by_cases hf0 : fltB e D (e.T i 0) = true
        · rw [if_pos hf0]; exact hgo
        · have hf1 := hch.2.resolve_left hf0
          rw [if_neg hf0, show nI (2 * i + 0) + (1 : Int32) = nI (2 * i + 1) from nI_1 _, chk_n (by omega) (by omega), cl_nI (by omega), ht1, q_isFaulty hV hEs hO hw hi hmi (by omega), bnd_s, ite_01, if_pos hf1]
          exact hgo
    · obtain ⟨D', mv', g1, g2, g3, g4⟩ := ih (k + 1) (by omega) D mv
      refine ⟨D', mv', g1, fun h => ?_, g3, fun σ0 σ w r hw hE hS k4 n x3 hn => ?_⟩
      · obtain ⟨z1, z2, z3⟩ := g2 h
        refine ⟨z1, z2, fun j hj hmj hkj => ?_⟩
        by_cases e2 : cntB e.mem j = k
        · have : j = i := mem_inj hmj hmi (by omega)
          subst this
          intro h0
          constructor
          · by_cases q : fltB e D (e.T j 0) = true
            · exact absurd ⟨h0, Or.inl q⟩ hch
            · simpa using q
          · by_cases q : fltB e D (e.T j 1) = true
            · exact absurd ⟨h0, Or.inr q⟩ hch
            · simpa using q
        · exact z3 j hj hmj (by omega)
      · obtain ⟨n, rfl⟩ : ∃ z, n = z + 1 := ⟨n - 1, by omega⟩
        obtain ⟨σ', k1, k2⟩ := g4 σ0 σ w r hw hE hS k4 n x3 (by omega)
        refine ⟨σ', k1, ?_⟩
        obtain ⟨hF, hO, hM, h2⟩ := hS
        have hEs := hE.f hF
        have h21 := hM.2.1 i hi hmi
        rw [hci] at h21
        have ht0 := hM.2.2 i 0 hi hmi (by omega)
        have ht1 := hM.2.2 i 1 hi hmi (by omega)
        have h31 : σ.1 31 r i = D 31 i := hO 31 i (by omega) (by omega) hi
        rw [m_X3_spreadFaults_20, hM.1, if_neg (by rw [nI_leI (by omega) (by omega)]; omega), chk_n (by omega) (by omega), cl_nI (by omega), h21, chk_n (by omega) (by omega), cl_nI (by omega), h31, nI_1]
        by_cases h0 : D 31 i = 0
        · have hf0 : ¬ fltB e D (e.T i 0) = true := fun q => hch ⟨h0, Or.inl q⟩
          have hf1 : ¬ fltB e D (e.T i 1) = true := fun q => hch ⟨h0, Or.inr q⟩
          rw [if_pos h0, ix2, chk_n (by omega) (by omega), cl_nI (by omega), show 2 * i = 2 * i + 0 from rfl, ht0, q_isFaulty hV hEs hO hw hi hmi (by omega), bnd_s, ite_01, if_neg hf0, show nI (2 * i + 0) + (1 : Int32) = nI (2 * i + 1) from nI_1 _, chk_n (by omega) (by omega), cl_nI (by omega), ht1, q_isFaulty hV hEs hO hw hi hmi (by omega), bnd_s, ite_01, if_neg hf1]
          exact k2
        · rw [if_neg h0]
          exact k2
theorem s_spread {e : EV} (hV : EOK e) (D : Nat → Nat → Int32) : ∃ D' : Nat → Nat → Int32, SW e D D' ∧ (∀ i, i < 128 → e.mem i = true → stab e D' i) ∧ ∀ (σ0 σ : Sg) (w r : Nat), w < 2 → ER e σ0 w r → STT e D σ0 σ w r → ok (fun σ' => STT e D' σ0 σ' w r) (m_X3_spreadFaults σ w r) := by
  have hc128 : cntB e.mem 128 ≤ 128 := cntB_le _ _
  have key : ∀ q rd, rd + q = 129 → ∀ (D : Nat → Nat → Int32) (mv : Bool), ((mv = true ∧ zer D 31 + rd ≤ 128) ∨ (mv = false ∧ ∀ i, i < 128 → e.mem i = true → stab e D i)) →
      ∃ D' : Nat → Nat → Int32, SW e D D' ∧ (∀ i, i < 128 → e.mem i = true → stab e D' i) ∧ ∀ (σ0 σ : Sg) (w r : Nat), w < 2 → ER e σ0 w r → STT e D σ0 σ w r → ∀ n, q < n → ok (fun σ' => STT e D' σ0 σ' w r) (m_X3_spreadFaults_4 w r n σ (b01 mv) (nI rd)) := by
    intro q
    induction q with
    | zero =>
      intro rd hrd D mv h
      rcases h with ⟨_, h⟩ | ⟨h1, h2⟩
      · omega
      · refine ⟨D, ⟨fun _ _ _ => rfl, fun _ => Or.inl rfl⟩, h2, fun σ0 σ w r hw hE hS n hn => ?_⟩
        obtain ⟨n, rfl⟩ : ∃ z, n = z + 1 := ⟨n - 1, by omega⟩
        rw [m_X3_spreadFaults_4]
        simp (disch := omega) only [lt_128]
        rw [if_pos (by omega)]
        exact ok_r hS
    | succ q ih =>
      intro rd hrd D mv h
      rcases h with ⟨h1, h⟩ | ⟨h1, h2⟩
      · obtain ⟨D1, mv1, g1, g2, g3, g4⟩ := sp_sweep hV (cntB e.mem 128) 0 (by omega) D false
        have hnext : (mv1 = true ∧ zer D1 31 + (rd + 1) ≤ 128) ∨ (mv1 = false ∧ ∀ i, i < 128 → e.mem i = true → stab e D1 i) := by
          cases hmv : mv1 with
          | true =>
            obtain ⟨i, hi, a1, a2⟩ := g3 rfl hmv
            have := zer_lt hi a1 a2 (fun j => (g1.2 j).elim Or.inl (fun z => Or.inr ⟨z.1, by rw [z.2.1]; decide⟩))
            exact Or.inl ⟨rfl, by omega⟩
          | false =>
            obtain ⟨_, a2, a3⟩ := g2 hmv
            exact Or.inr ⟨rfl, fun i hi hm => by rw [a2]; exact a3 i hi hm (by omega)⟩
        obtain ⟨D', k1, k2, k3⟩ := ih (rd + 1) (by omega) D1 mv1 hnext
        refine ⟨D', g1.tr k1, k2, fun σ0 σ w r hw hE hS n hn => ?_⟩
        obtain ⟨n, rfl⟩ : ∃ z, n = z + 1 := ⟨n - 1, by omega⟩
        obtain ⟨σ', z1, z2⟩ := g4 σ0 σ w r hw hE hS (m_X3_spreadFaults_4 w r n) 1000 (nI rd) (by omega)
        rw [m_X3_spreadFaults_4]
        simp (disch := omega) only [lt_128]
        rw [if_neg (by omega), h1, if_neg (by decide)]
        show ok _ (m_X3_spreadFaults_20 w r (m_X3_spreadFaults_4 w r n) 1000 σ (b01 false) (nI rd) (nI 0))
        rw [z2, nI_1]
        exact k3 σ0 σ' w r hw hE z1 n (by omega)
      · refine ⟨D, ⟨fun _ _ _ => rfl, fun _ => Or.inl rfl⟩, h2, fun σ0 σ w r hw hE hS n hn => ?_⟩
        obtain ⟨n, rfl⟩ : ∃ z, n = z + 1 := ⟨n - 1, by omega⟩
        rw [m_X3_spreadFaults_4]
        simp (disch := omega) only [lt_128]
        rw [if_neg (by omega), h1, if_pos (by decide)]
        exact ok_r hS
  obtain ⟨D', k1, k2, k3⟩ := key 129 0 (by omega) D true (Or.inl ⟨rfl, by have := zer_le D 31; omega⟩)
  refine ⟨D', k1, k2, fun σ0 σ w r hw hE hS => ?_⟩
  unfold m_X3_spreadFaults
  exact k3 σ0 σ w r hw hE hS 1000 (by omega)
