/-! MAKER: calls, answers, the whole -/
def addC (e : EV) (D : Nat → Nat → Int32) (i : Nat) (x : Int32) : Nat → Nat → Int32 := if nocB e D x = true then D else if D 35 i = -1 then updD D 35 i x else updD D 36 i x
def clD (e : EV) (D : Nat → Nat → Int32) (i : Nat) : Nat → Nat → Int32 := addC e (addC e (updD D 34 i (nwV e D i)) i (e.T i 0)) i (e.T i 1)
/-- what findCalls may do -/
def CW (e : EV) (D D' : Nat → Nat → Int32) : Prop := (∀ c i, ¬ (34 ≤ c ∧ c ≤ 36 ∧ i < 128 ∧ e.mem i = true ∧ D 31 i = 0 ∧ D 33 i = 0) → D' c i = D c i) ∧ ∀ i, (SL1 (D 35 i) → SL1 (D' 35 i)) ∧ (SL1 (D 36 i) → SL1 (D' 36 i))
theorem CW.rf (e : EV) (D : Nat → Nat → Int32) : CW e D D := ⟨fun _ _ _ => rfl, fun _ => ⟨id, id⟩⟩
theorem CW.tr {e : EV} {A B C : Nat → Nat → Int32} (h1 : CW e A B) (h2 : CW e B C) : CW e A C := ⟨fun c i hc => by
  have e31 : B 31 i = A 31 i := h1.1 31 i (by omega)
  have e33 : B 33 i = A 33 i := h1.1 33 i (by omega)
  rw [h2.1 c i (by rw [e31, e33]; exact hc), h1.1 c i hc], fun i => ⟨fun q => (h2.2 i).1 ((h1.2 i).1 q), fun q => (h2.2 i).2 ((h1.2 i).2 q)⟩⟩
theorem TG.noc {e : EV} {D : Nat → Nat → Int32} {x : Int32} (h : TG x) (hn : ¬ nocB e D x = true) : ∃ j, j < 128 ∧ x = nI j := by
  rcases h.neg with q | q
  · exact absurd (by unfold nocB; simp [q]) hn
  · exact q
theorem addC_cw {e : EV} {D : Nat → Nat → Int32} {i : Nat} {x : Int32} (hi : i < 128) (hm : e.mem i = true) (h31 : D 31 i = 0) (h33 : D 33 i = 0) (hx : TG x) : CW e D (addC e D i x) := by
  unfold addC
  by_cases hn : nocB e D x = true
  · rw [if_pos hn]; exact CW.rf e D
  · obtain ⟨j, hj, hx2⟩ := hx.noc hn
    rw [if_neg hn]
    have hsl : SL1 x := Or.inr ⟨j, hj, hx2⟩
    by_cases h5 : D 35 i = -1
    · rw [if_pos h5]
      refine ⟨fun c k hc => ?_, fun k => ⟨fun q => ?_, fun q => ?_⟩⟩
      · unfold updD
        rw [if_neg]
        rintro ⟨a, b⟩
        exact hc ⟨by omega, by omega, by omega, by rw [b]; exact hm, by rw [b]; exact h31, by rw [b]; exact h33⟩
      · unfold updD; split
        · exact hsl
        · exact q
      · unfold updD; rw [if_neg (by omega)]; exact q
    · rw [if_neg h5]
      refine ⟨fun c k hc => ?_, fun k => ⟨fun q => ?_, fun q => ?_⟩⟩
      · unfold updD
        rw [if_neg]
        rintro ⟨a, b⟩
        exact hc ⟨by omega, by omega, by omega, by rw [b]; exact hm, by rw [b]; exact h31, by rw [b]; exact h33⟩
      · unfold updD; rw [if_neg (by omega)]; exact q
      · unfold updD; split
        · exact hsl
        · exact q
theorem nocB_c {e : EV} {D D' : Nat → Nat → Int32} (h : ∀ i, D' 33 i = D 33 i) (x : Int32) : nocB e D' x = nocB e D x := by
  unfold nocB lk; rw [h]
theorem q_addCall {e : EV} {D : Nat → Nat → Int32} {σ0 σ : Sg} {w r i side : Nat} (hV : EOK e) (hw : w < 2) (hE : ER e σ0 w r) (hS : STT e D σ0 σ w r) (hi : i < 128) (hm : e.mem i = true) (hsd : side < 2) : ok (fun σ' => STT e (addC e D i (e.T i side)) σ0 σ' w r) (m_X3_addCall σ w r (nI i) (e.T i side)) := by
  obtain ⟨hF, hO, hM, h2⟩ := hS
  have hEs := hE.f hF
  have v35 : σ.1 35 r i = D 35 i := hO 35 i (by omega) (by omega) hi
  unfold m_X3_addCall
  rw [q_noCall hV hEs hO hw hi hm hsd, bnd_s, ite_01]
  by_cases hn : nocB e D (e.T i side) = true
  · rw [if_pos hn, show addC e D i (e.T i side) = D from by unfold addC; rw [if_pos hn]]
    exact ok_r ⟨hF, hO, hM, h2⟩
  · rw [if_neg hn, chk_n (by omega) (by omega), cl_nI (by omega), v35]
    have ea : addC e D i (e.T i side) = if D 35 i = -1 then updD D 35 i (e.T i side) else updD D 36 i (e.T i side) := by unfold addC; rw [if_neg hn]
    rw [ea]
    have hfin : ∀ c, (c = 35 ∨ c = 36) → STT e (updD D c i (e.T i side)) σ0 (wI σ c r i (e.T i side)) w r := fun c hc => ⟨hF.tr (MF.w _ _ _ (Or.inr ⟨by omega, by omega, rfl⟩)), hO.w c i _, hM.f (wI_co _ _ _ _ _ (by omega)) (wI_co _ _ _ _ _ (by omega)) (wI_co _ _ _ _ _ (by omega)), h2⟩
    by_cases h5 : D 35 i = -1
    · rw [if_pos h5, if_pos h5, chk_n (by omega) (by omega)]
      exact ok_r (hfin 35 (Or.inl rfl))
    · rw [if_neg h5, if_neg h5, chk_n (by omega) (by omega)]
      exact ok_r (hfin 36 (Or.inr rfl))
theorem addC_o {e : EV} {D : Nat → Nat → Int32} {i : Nat} {x : Int32} (c j : Nat) (hc : ¬ c = 35) (hc' : ¬ c = 36) : addC e D i x c j = D c j := by
  unfold addC updD
  split
  · rfl
  · split
    · dsimp only; rw [if_neg (fun q => hc q.1)]
    · dsimp only; rw [if_neg (fun q => hc' q.1)]
theorem s_calls {e : EV} (hV : EOK e) (D : Nat → Nat → Int32) : ∃ D' : Nat → Nat → Int32, CW e D D' ∧ ∀ (σ0 σ : Sg) (w r : Nat), w < 2 → ER e σ0 w r → STT e D σ0 σ w r → ok (fun σ' => STT e D' σ0 σ' w r) (m_X3_findCalls σ w r) := by
  have hc128 : cntB e.mem 128 ≤ 128 := cntB_le _ _
  have key : ∀ d k, k + d = cntB e.mem 128 → ∀ (D : Nat → Nat → Int32), ∃ D' : Nat → Nat → Int32, CW e D D' ∧ ∀ (σ0 σ : Sg) (w r : Nat), w < 2 → ER e σ0 w r → STT e D σ0 σ w r → ∀ n, d < n → ok (fun σ' => STT e D' σ0 σ' w r) (m_X3_findCalls_2 w r n σ (nI k)) := by
    intro d
    induction d with
    | zero =>
      intro k hk D
      refine ⟨D, CW.rf e D, fun σ0 σ w r hw hE hS n hn => ?_⟩
      obtain ⟨n, rfl⟩ : ∃ z, n = z + 1 := ⟨n - 1, by omega⟩
      rw [m_X3_findCalls_2, hS.2.2.1.1]
      simp (disch := omega) only [le_n]
      rw [if_pos (by omega)]
      exact ok_r hS
    | succ d ih =>
      intro k hk D
      obtain ⟨i, hi, hmi, hci⟩ := cnt_at e.mem 128 k (by omega)
      by_cases hch : D 31 i = 0 ∧ D 33 i = 0
      · obtain ⟨D', g1, g2⟩ := ih (k + 1) (by omega) (clD e D i)
        have c1 : CW e D (updD D 34 i (nwV e D i)) := ⟨fun c j hc => by
          unfold updD
          rw [if_neg]
          rintro ⟨a, b⟩
          exact hc ⟨by omega, by omega, by omega, by rw [b]; exact hmi, by rw [b]; exact hch.1, by rw [b]; exact hch.2⟩, fun j => ⟨fun q => by unfold updD; rw [if_neg (by omega)]; exact q, fun q => by unfold updD; rw [if_neg (by omega)]; exact q⟩⟩
        have c2 := addC_cw (e := e) (D := updD D 34 i (nwV e D i)) (x := e.T i 0) hi hmi (by unfold updD; rw [if_neg (by omega)]; exact hch.1) (by unfold updD; rw [if_neg (by omega)]; exact hch.2) (hV.2 i 0 hi hmi (by omega))
        have c3 := addC_cw (e := e) (D := addC e (updD D 34 i (nwV e D i)) i (e.T i 0)) (x := e.T i 1) hi hmi (by rw [addC_o 31 i (by omega) (by omega)]; unfold updD; rw [if_neg (by omega)]; exact hch.1) (by rw [addC_o 33 i (by omega) (by omega)]; unfold updD; rw [if_neg (by omega)]; exact hch.2) (hV.2 i 1 hi hmi (by omega))
        refine ⟨D', ((c1.tr c2).tr c3).tr g1, fun σ0 σ w r hw hE hS n hn => ?_⟩
        obtain ⟨n, rfl⟩ : ∃ z, n = z + 1 := ⟨n - 1, by omega⟩
        obtain ⟨hF, hO, hM, h2⟩ := hS
        have hEs := hE.f hF
        have h21 := hM.2.1 i hi hmi
        rw [hci] at h21
        have v31 : σ.1 31 r i = D 31 i := hO 31 i (by omega) (by omega) hi
        have v33 : σ.1 33 r i = D 33 i := hO 33 i (by omega) (by omega) hi
        rw [m_X3_findCalls_2, hM.1]
        simp (disch := omega) only [le_n]
        rw [if_neg (by omega), chk_n (by omega) (by omega), cl_nI (by omega), h21, chk_n (by omega) (by omega), cl_nI (by omega), v31, if_pos hch.1, chk_n (by omega) (by omega), v33, if_pos hch.2, q_numWT hV hEs hO hw hi hmi (fun side hsd => hM.2.2 i side hi hmi hsd), bnd_s, chk_n (by omega) (by omega)]
        simp only [st_s]
        have hSa : STT e (updD D 34 i (nwV e D i)) σ0 (wI σ 34 r i (nwV e D i)) w r := ⟨hF.tr (MF.w _ _ _ (Or.inr ⟨by omega, by omega, rfl⟩)), hO.w 34 i _, hM.f (wI_co _ _ _ _ _ (by omega)) (wI_co _ _ _ _ _ (by omega)) (wI_co _ _ _ _ _ (by omega)), h2⟩
        rw [ix2, chk_n (by omega) (by omega), cl_nI (by omega), show (wI σ 34 r i (nwV e D i)).1 22 w (2 * i) = e.T i 0 from hSa.2.2.1.2.2 i 0 hi hmi (by omega)]
        refine ok_b (q_addCall hV hw hE hSa hi hmi (by omega)) (fun σ1 hS1 => ?_)
        rw [show nI (2 * i) + (1 : Int32) = nI (2 * i + 1) from nI_1 _, chk_n (by omega) (by omega), cl_nI (by omega), hS1.2.2.1.2.2 i 1 hi hmi (by omega)]
        refine ok_b (q_addCall hV hw hE hS1 hi hmi (by omega)) (fun σ2 hS2 => ?_)
        rw [nI_1]
        exact g2 σ0 σ2 w r hw hE hS2 n (by omega)
      · obtain ⟨D', g1, g2⟩ := ih (k + 1) (by omega) D
        refine ⟨D', g1, fun σ0 σ w r hw hE hS n hn => ?_⟩
        obtain ⟨n, rfl⟩ : ∃ z, n = z + 1 := ⟨n - 1, by omega⟩
        have hgo := g2 σ0 σ w r hw hE hS n (by omega)
        obtain ⟨hF, hO, hM, h2⟩ := hS
        have h21 := hM.2.1 i hi hmi
        rw [hci] at h21
        have v31 : σ.1 31 r i = D 31 i := hO 31 i (by omega) (by omega) hi
        have v33 : σ.1 33 r i = D 33 i := hO 33 i (by omega) (by omega) hi
        rw [m_X3_findCalls_2, hM.1]
        simp (disch := omega) only [le_n]
        rw [if_neg (by omega), chk_n (by omega) (by omega), cl_nI (by omega), h21, chk_n (by omega) (by omega), cl_nI (by omega), v31, nI_1]
        by_cases h0 : D 31 i = 0
        · rw [if_pos h0, chk_n (by omega) (by omega), v33, if_neg (fun q => hch ⟨h0, q⟩)]
          exact hgo
        · rw [if_neg h0]; exact hgo
  obtain ⟨D', g1, g2⟩ := key (cntB e.mem 128) 0 (by omega) D
  refine ⟨D', g1, fun σ0 σ w r hw hE hS => ?_⟩
  unfold m_X3_findCalls
  exact g2 σ0 σ w r hw hE hS 1000 (by omega)
/-- an answer in one long -/
def ansV (a b c d n : Int32) : Int64 := ((((((a ||| 128) ||| (if b = 0 then 0 else 256)) ||| (if c = 0 then 0 else 512)) ||| (if d = 0 then 0 else 1024)) : Int32).toInt64) ||| (((n : Int32).toInt64 &&& 4294967295) <<< ((11 : Int32).toInt64 &&& 63))
theorem q_of (σ : Sg) (a b c d n : Int32) : m_X0_of σ a b c d n = some (ansV a b c d n) := by
  unfold m_X0_of m_X0_of_16 m_X0_of_40 ansV
  by_cases h1 : b = 0 <;> by_cases h2 : c = 0 <;> by_cases h3 : d = 0 <;> simp only [h1, h2, h3, if_true, if_false]
def ansOf (D : Nat → Nat → Int32) (i : Nat) : Int64 := ansV (nI i) (if D 32 i = 0 then 1 else 0) (if D 31 i = 0 then 0 else 1) (if D 33 i = 0 then 0 else if D 32 i = 0 then 0 else 1) (if D 33 i = 0 then 0 else D 34 i)
theorem s_answers {e : EV} {D : Nat → Nat → Int32} {σ0 σ : Sg} {w r : Nat} (hw : w < 2) (hE : ER e σ0 w r) (hS : STT e D σ0 σ w r) :
    ok (fun σ' => MF w r σ0 σ' ∧ OWN D σ' r ∧ σ'.2.2 = σ0.2.2 ∧ ∀ i, i < 128 → σ'.2.1 1 r i = if e.mem i = true then ansOf D i else σ0.2.1 1 r i) (m_X3_tellAnswers σ w r) := by
  have hc128 : cntB e.mem 128 ≤ 128 := cntB_le _ _
  have key : ∀ n k σ1, k ≤ cntB e.mem 128 → cntB e.mem 128 - k < n → (MF w r σ0 σ1 ∧ OWN D σ1 r ∧ MEMS e σ1 w ∧ σ1.2.2 = σ0.2.2 ∧ ∀ i, i < 128 → σ1.2.1 1 r i = if e.mem i = true ∧ cntB e.mem i < k then ansOf D i else σ0.2.1 1 r i) →
      ok (fun σ' => MF w r σ0 σ' ∧ OWN D σ' r ∧ σ'.2.2 = σ0.2.2 ∧ ∀ i, i < 128 → σ'.2.1 1 r i = if e.mem i = true then ansOf D i else σ0.2.1 1 r i) (m_X3_tellAnswers_2 w r n σ1 (nI k)) := by
    intro n
    induction n with
    | zero => intro k σ1 _ h; omega
    | succ n ih =>
      intro k σ1 hk hn hI
      obtain ⟨hF, hO, hM, h22, hJ⟩ := hI
      rw [m_X3_tellAnswers_2, hM.1]
      simp (disch := omega) only [le_n]
      by_cases e1 : k = cntB e.mem 128
      · rw [if_pos (by omega)]
        refine ok_r ⟨hF, hO, h22, fun i hi => ?_⟩
        rw [hJ i hi]
        by_cases hm : e.mem i = true
        · have := cntB_lt e.mem hi hm
          rw [if_pos ⟨hm, by omega⟩, if_pos hm]
        · rw [if_neg (fun q => hm q.1), if_neg hm]
      · obtain ⟨i, hi, hmi, hci⟩ := cnt_at e.mem 128 k (by omega)
        have h21 := hM.2.1 i hi hmi
        rw [hci] at h21
        have v31 : σ1.1 31 r i = D 31 i := hO 31 i (by omega) (by omega) hi
        have v32 : σ1.1 32 r i = D 32 i := hO 32 i (by omega) (by omega) hi
        have v33 : σ1.1 33 r i = D 33 i := hO 33 i (by omega) (by omega) hi
        have v34 : σ1.1 34 r i = D 34 i := hO 34 i (by omega) (by omega) hi
        rw [if_neg (by omega), chk_n (by omega) (by omega), cl_nI (by omega), h21, chk_n (by omega) (by omega), chk_n (by omega) (by omega), cl_nI (by omega), v32, v33]
        have hnext := ih (k + 1) (wJ σ1 1 r i (ansOf D i)) (by omega) (by omega) ⟨hF.tr (MF.j _ _ _), fun c j a b d => hO c j a b d, hM, h22, fun j hj => by
          rw [wJ_1]
          by_cases e2 : j = i
          · subst e2
            rw [if_pos ⟨rfl, rfl, rfl⟩, if_pos ⟨hmi, by omega⟩]
          · rw [if_neg (fun q => e2 q.2.2), hJ j hj]
            by_cases hm : e.mem j = true
            · have hne : ¬ cntB e.mem j = k := fun q => e2 (mem_inj hm hmi (by omega))
              by_cases e3 : cntB e.mem j < k
              · rw [if_pos ⟨hm, e3⟩, if_pos ⟨hm, by omega⟩]
              · rw [if_neg (fun q => e3 q.2), if_neg (fun q => by have := q.2; omega)]
            · rw [if_neg (fun q => hm q.1), if_neg (fun q => hm q.1)]⟩
        unfold ansOf at hnext
        unfold m_X3_tellAnswers_45 m_X3_tellAnswers_59 m_X3_tellAnswers_78
        simp (disch := omega) only [chk_n, cl_nI, v31, v32, v33, v34, q_of, bnd_s, st_s, nI_1]
        by_cases z1 : D 31 i = 0 <;> by_cases z2 : D 32 i = 0 <;> by_cases z3 : D 33 i = 0 <;> simp only [z1, z2, z3, if_true, if_false] at hnext ⊢ <;> exact hnext
  unfold m_X3_tellAnswers
  show ok _ (m_X3_tellAnswers_2 w r 1000 σ (nI 0))
  refine key 1000 0 σ (by omega) (by omega) ⟨hS.1, hS.2.1, hS.2.2.1, by rw [hS.2.2.2], fun i hi => ?_⟩
  rw [if_neg (fun q => by omega), hS.2.2.2]
