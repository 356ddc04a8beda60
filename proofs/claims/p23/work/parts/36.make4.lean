/-! MAKER: what is plain -/
def pst (e : EV) (D : Nat → Nat → Int32) (i : Nat) : Prop := D 31 i = 0 → D 33 i = 0 → ¬ (nocB e D (e.T i 0) = true ∧ nocB e D (e.T i 1) = true)
def plD (e : EV) (D : Nat → Nat → Int32) (i : Nat) : Nat → Nat → Int32 := updD (updD D 33 i 1) 34 i (nwV e (updD D 33 i 1) i)
/-- what one sweep of findPlain may do -/
def PW (e : EV) (D D' : Nat → Nat → Int32) : Prop := (∀ c i, ¬ c = 33 → ¬ c = 34 → D' c i = D c i) ∧ ∀ i, (D' 33 i = D 33 i ∧ D' 34 i = D 34 i) ∨ (D 33 i = 0 ∧ D' 33 i = 1 ∧ D 31 i = 0 ∧ e.mem i = true ∧ i < 128)
theorem PW.tr {e : EV} {A B C : Nat → Nat → Int32} (h1 : PW e A B) (h2 : PW e B C) : PW e A C := ⟨fun c i hc hc' => (h2.1 c i hc hc').trans (h1.1 c i hc hc'), fun i => by
  rcases h2.2 i with ⟨q, q'⟩ | ⟨q1, q2, q3, q4⟩
  · rw [q, q']; exact h1.2 i
  · rcases h1.2 i with ⟨z, z'⟩ | ⟨z1, z2, _⟩
    · exact Or.inr ⟨by rw [← z]; exact q1, q2, by rw [← h1.1 31 i (by decide) (by decide)]; exact q3, q4⟩
    · rw [z2] at q1; exact absurd q1 (by decide)⟩
theorem pl_sweep {e : EV} (hV : EOK e) : ∀ d k, k + d = cntB e.mem 128 → ∀ (D : Nat → Nat → Int32) (mv : Bool), ∃ (D' : Nat → Nat → Int32) (mv' : Bool), PW e D D' ∧ (mv' = false → mv = false ∧ D' = D ∧ ∀ i, i < 128 → e.mem i = true → k ≤ cntB e.mem i → pst e D i) ∧ (mv = false → mv' = true → ∃ i, i < 128 ∧ D 33 i = 0 ∧ ¬ D' 33 i = 0) ∧
    ∀ (σ0 σ : Sg) (w r : Nat), w < 2 → ER e σ0 w r → STT e D σ0 σ w r → ∀ (k4 : Sg → Int32 → Int32 → Option Sg) (n : Nat) (x3 : Int32), d < n → ∃ σ', STT e D' σ0 σ' w r ∧ m_X3_findPlain_20 w r k4 n σ (b01 mv) x3 (nI k) = k4 σ' (b01 mv') (x3 + 1) := by
  have hc128 : cntB e.mem 128 ≤ 128 := cntB_le _ _
  intro d
  induction d with
  | zero =>
    intro k hk D mv
    refine ⟨D, mv, ⟨fun _ _ _ _ => rfl, fun _ => Or.inl ⟨rfl, rfl⟩⟩, fun h => ⟨h, rfl, fun i hi hm hki => ?_⟩, fun h1 h2 => (by rw [h1] at h2; cases h2), fun σ0 σ w r hw hE hS k4 n x3 hn => ⟨σ, hS, ?_⟩⟩
    · have := cntB_lt e.mem hi hm; omega
    · obtain ⟨n, rfl⟩ : ∃ z, n = z + 1 := ⟨n - 1, by omega⟩
      rw [m_X3_findPlain_20, hS.2.2.1.1, if_pos (by rw [nI_leI (by omega) (by omega)]; omega)]
  | succ d ih =>
    intro k hk D mv
    obtain ⟨i, hi, hmi, hci⟩ := cnt_at e.mem 128 k (by omega)
    by_cases hch : D 31 i = 0 ∧ D 33 i = 0 ∧ nocB e D (e.T i 0) = true ∧ nocB e D (e.T i 1) = true
    · obtain ⟨D', mv', g1, g2, g3, g4⟩ := ih (k + 1) (by omega) (plD e D i) true
      have h33 : plD e D i 33 i = 1 := by unfold plD updD; simp
      have hup : PW e D (plD e D i) := ⟨fun c j hc hc' => by unfold plD updD; simp [hc, hc'], fun j => by
        by_cases e2 : j = i
        · subst e2; exact Or.inr ⟨hch.2.1, h33, hch.1, hmi, hi⟩
        · exact Or.inl ⟨by unfold plD updD; simp [e2], by unfold plD updD; simp [e2]⟩⟩
      refine ⟨D', mv', hup.tr g1, fun h => ?_, fun h1 h2 => ⟨i, hi, hch.2.1, ?_⟩, fun σ0 σ w r hw hE hS k4 n x3 hn => ?_⟩
      · have := (g2 h).1; cases this
      · rcases g1.2 i with ⟨q, _⟩ | ⟨q1, _⟩
        · rw [q, h33]; decide
        · rw [h33] at q1; exact absurd q1 (by decide)
      · obtain ⟨n, rfl⟩ : ∃ z, n = z + 1 := ⟨n - 1, by omega⟩
        obtain ⟨hF, hO, hM, h2⟩ := hS
        have hEs := hE.f hF
        have h21 := hM.2.1 i hi hmi
        rw [hci] at h21
        have ht0 := hM.2.2 i 0 hi hmi (by omega)
        have ht1 := hM.2.2 i 1 hi hmi (by omega)
        have v31 : σ.1 31 r i = D 31 i := hO 31 i (by omega) (by omega) hi
        have v33 : σ.1 33 r i = D 33 i := hO 33 i (by omega) (by omega) hi
        have hFa : MF w r σ (wI σ 33 r i 1) := MF.w _ _ _ (Or.inr ⟨by omega, by omega, rfl⟩)
        have hOa : OWN (updD D 33 i 1) (wI σ 33 r i 1) r := hO.w 33 i 1
        have hTa : ∀ side, side < 2 → (wI σ 33 r i 1).1 22 w (2 * i + side) = e.T i side := fun side hsd => by rw [wI_ne _ _ _ _ _ _ (by decide)]; exact hM.2.2 i side hi hmi hsd
        have hS' : STT e (plD e D i) σ0 (wI (wI σ 33 r i 1) 34 r i (nwV e (updD D 33 i 1) i)) w r := ⟨(hF.tr hFa).tr (MF.w _ _ _ (Or.inr ⟨by omega, by omega, rfl⟩)), hOa.w 34 i _, hM.f (by rw [wI_co _ _ _ _ _ (by omega), wI_co _ _ _ _ _ (by omega)]) (by rw [wI_co _ _ _ _ _ (by omega), wI_co _ _ _ _ _ (by omega)]) (by rw [wI_co _ _ _ _ _ (by omega), wI_co _ _ _ _ _ (by omega)]), h2⟩
        obtain ⟨σ', k1, k2⟩ := g4 σ0 _ w r hw hE hS' k4 n x3 (by omega)
        refine ⟨σ', k1, ?_⟩
        rw [m_X3_findPlain_20, hM.1, if_neg (by rw [nI_leI (by omega) (by omega)]; omega), chk_n (by omega) (by omega), cl_nI (by omega), h21, chk_n (by omega) (by omega), cl_nI (by omega), v31, if_pos hch.1, chk_n (by omega) (by omega), v33, if_pos hch.2.1, ix2, chk_n (by omega) (by omega), cl_nI (by omega), show 2 * i = 2 * i + 0 from rfl, ht0, q_noCall hV hEs hO hw hi hmi (by omega), bnd_s, ite_01, if_pos hch.2.2.1, show nI (2 * i + 0) + (1 : Int32) = nI (2 * i + 1) from nI_1 _, chk_n (by omega) (by omega), cl_nI (by omega), ht1, q_noCall hV hEs hO hw hi hmi (by omega), bnd_s, ite_01, if_pos hch.2.2.2, chk_n (by omega) (by omega)]
        simp only [st_s]
        rw [q_numWT hV (hEs.f hFa) hOa hw hi hmi hTa, bnd_s, chk_n (by omega) (by omega), nI_1]
        exact k2
    · obtain ⟨D', mv', g1, g2, g3, g4⟩ := ih (k + 1) (by omega) D mv
      refine ⟨D', mv', g1, fun h => ?_, g3, fun σ0 σ w r hw hE hS k4 n x3 hn => ?_⟩
      · obtain ⟨z1, z2, z3⟩ := g2 h
        refine ⟨z1, z2, fun j hj hmj hkj => ?_⟩
        by_cases e2 : cntB e.mem j = k
        · have : j = i := mem_inj hmj hmi (by omega)
          subst this
          exact fun a b c => hch ⟨a, b, c⟩
        · exact z3 j hj hmj (by omega)
      · obtain ⟨n, rfl⟩ : ∃ z, n = z + 1 := ⟨n - 1, by omega⟩
        obtain ⟨σ', k1, k2⟩ := g4 σ0 σ w r hw hE hS k4 n x3 (by omega)
        refine ⟨σ', k1, ?_⟩
        obtain ⟨hF, hO, hM, h2⟩ := hS
        have hEs := hE.f hF
        have h21 := hM.2.1 i hi hmi
        rw [hci] at h21
        have ht0 := hM.2.2 i 0 hi hmi (by omega)
        have ht1 := hM.2.2 i 1 hi hmi (by omega)
        have v31 : σ.1 31 r i = D 31 i := hO 31 i (by omega) (by omega) hi
        have v33 : σ.1 33 r i = D 33 i := hO 33 i (by omega) (by omega) hi
        rw [m_X3_findPlain_20, hM.1, if_neg (by rw [nI_leI (by omega) (by omega)]; omega), chk_n (by omega) (by omega), cl_nI (by omega), h21, chk_n (by omega) (by omega), cl_nI (by omega), v31, nI_1]
        by_cases h0 : D 31 i = 0
        · rw [if_pos h0, chk_n (by omega) (by omega), v33]
          by_cases h3 : D 33 i = 0
          · rw [if_pos h3, ix2, chk_n (by omega) (by omega), cl_nI (by omega), show 2 * i = 2 * i + 0 from rfl, ht0, q_noCall hV hEs hO hw hi hmi (by omega), bnd_s, ite_01]
            by_cases hf0 : nocB e D (e.T i 0) = true
            · have hf1 : ¬ nocB e D (e.T i 1) = true := fun q => hch ⟨h0, h3, hf0, q⟩
              rw [if_pos hf0, show nI (2 * i + 0) + (1 : Int32) = nI (2 * i + 1) from nI_1 _, chk_n (by omega) (by omega), cl_nI (by omega), ht1, q_noCall hV hEs hO hw hi hmi (by omega), bnd_s, ite_01, if_neg hf1]
              exact k2
            · rw [if_neg hf0]
              exact k2
          · rw [if_neg h3]; exact k2
        · rw [if_neg h0]
          exact k2
theorem s_plain {e : EV} (hV : EOK e) (D : Nat → Nat → Int32) : ∃ D' : Nat → Nat → Int32, PW e D D' ∧ (∀ i, i < 128 → e.mem i = true → pst e D' i) ∧ ∀ (σ0 σ : Sg) (w r : Nat), w < 2 → ER e σ0 w r → STT e D σ0 σ w r → ok (fun σ' => STT e D' σ0 σ' w r) (m_X3_findPlain σ w r) := by
  have hc128 : cntB e.mem 128 ≤ 128 := cntB_le _ _
  have key : ∀ q rd, rd + q = 129 → ∀ (D : Nat → Nat → Int32) (mv : Bool), ((mv = true ∧ zer D 33 + rd ≤ 128) ∨ (mv = false ∧ ∀ i, i < 128 → e.mem i = true → pst e D i)) →
      ∃ D' : Nat → Nat → Int32, PW e D D' ∧ (∀ i, i < 128 → e.mem i = true → pst e D' i) ∧ ∀ (σ0 σ : Sg) (w r : Nat), w < 2 → ER e σ0 w r → STT e D σ0 σ w r → ∀ n, q < n → ok (fun σ' => STT e D' σ0 σ' w r) (m_X3_findPlain_4 w r n σ (b01 mv) (nI rd)) := by
    intro q
    induction q with
    | zero =>
      intro rd hrd D mv h
      rcases h with ⟨_, h⟩ | ⟨h1, h2⟩
      · omega
      · refine ⟨D, ⟨fun _ _ _ _ => rfl, fun _ => Or.inl ⟨rfl, rfl⟩⟩, h2, fun σ0 σ w r hw hE hS n hn => ?_⟩
        obtain ⟨n, rfl⟩ : ∃ z, n = z + 1 := ⟨n - 1, by omega⟩
        rw [m_X3_findPlain_4]
        simp (disch := omega) only [lt_128]
        rw [if_pos (by omega)]
        exact ok_r hS
    | succ q ih =>
      intro rd hrd D mv h
      rcases h with ⟨h1, h⟩ | ⟨h1, h2⟩
      · obtain ⟨D1, mv1, g1, g2, g3, g4⟩ := pl_sweep hV (cntB e.mem 128) 0 (by omega) D false
        have hnext : (mv1 = true ∧ zer D1 33 + (rd + 1) ≤ 128) ∨ (mv1 = false ∧ ∀ i, i < 128 → e.mem i = true → pst e D1 i) := by
          cases hmv : mv1 with
          | true =>
            obtain ⟨i, hi, a1, a2⟩ := g3 rfl hmv
            have := zer_lt hi a1 a2 (fun j => (g1.2 j).elim (fun z => Or.inl z.1) (fun z => Or.inr ⟨z.1, by rw [z.2.1]; decide⟩))
            exact Or.inl ⟨rfl, by omega⟩
          | false =>
            obtain ⟨_, a2, a3⟩ := g2 hmv
            exact Or.inr ⟨rfl, fun i hi hm => by rw [a2]; exact a3 i hi hm (by omega)⟩
        obtain ⟨D', k1, k2, k3⟩ := ih (rd + 1) (by omega) D1 mv1 hnext
        refine ⟨D', g1.tr k1, k2, fun σ0 σ w r hw hE hS n hn => ?_⟩
        obtain ⟨n, rfl⟩ : ∃ z, n = z + 1 := ⟨n - 1, by omega⟩
        obtain ⟨σ', z1, z2⟩ := g4 σ0 σ w r hw hE hS (m_X3_findPlain_4 w r n) 1000 (nI rd) (by omega)
        rw [m_X3_findPlain_4]
        simp (disch := omega) only [lt_128]
        rw [if_neg (by omega), h1, if_neg (by decide)]
        show ok _ (m_X3_findPlain_20 w r (m_X3_findPlain_4 w r n) 1000 σ (b01 false) (nI rd) (nI 0))
        rw [z2, nI_1]
        exact k3 σ0 σ' w r hw hE z1 n (by omega)
      · refine ⟨D, ⟨fun _ _ _ _ => rfl, fun _ => Or.inl ⟨rfl, rfl⟩⟩, h2, fun σ0 σ w r hw hE hS n hn => ?_⟩
        obtain ⟨n, rfl⟩ : ∃ z, n = z + 1 := ⟨n - 1, by omega⟩
        rw [m_X3_findPlain_4]
        simp (disch := omega) only [lt_128]
        rw [if_neg (by omega), h1, if_pos (by decide)]
        exact ok_r hS
  obtain ⟨D', k1, k2, k3⟩ := key 129 0 (by omega) D true (Or.inl ⟨rfl, by have := zer_le D 33; omega⟩)
  refine ⟨D', k1, k2, fun σ0 σ w r hw hE hS => ?_⟩
  unfold m_X3_findPlain
  exact k3 σ0 σ w r hw hE hS 1000 (by omega)
