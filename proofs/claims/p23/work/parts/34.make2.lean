/-! MAKER: direct faults; what comes back to itself -/
def dfl (e : EV) (D : Nat → Nat → Int32) (i : Nat) : Int32 := if dfV e D (e.T i 0) (if D 32 i = 0 then 1 else 0) = 0 then dfV e D (e.T i 1) (if D 32 i = 0 then 1 else 0) else dfV e D (e.T i 0) (if D 32 i = 0 then 1 else 0)
def lnk (e : EV) (D : Nat → Nat → Int32) (i : Nat) : Bool := e.mem i && (decide (D 32 i = 0) && decide (dfl e D i = 0))
def D2 (e : EV) (D : Nat → Nat → Int32) (k : Nat) : Nat → Nat → Int32 := fun c i => if c = 31 ∧ e.mem i = true ∧ cntB e.mem i < k then dfl e D i else D c i
theorem dfV_c {e : EV} {D D' : Nat → Nat → Int32} (h : ∀ i, D' 32 i = D 32 i) (x k : Int32) : dfV e D' x k = dfV e D x k := by
  unfold dfV lk; rw [h]
theorem s_direct {e : EV} {D : Nat → Nat → Int32} {σ0 : Sg} {w r : Nat} (hV : EOK e) (hw : w < 2) (hE0 : ER e σ0 w r) (hO0 : OWN D σ0 r) (hM0 : MEMS e σ0 w) :
    ok (fun σ' => MF w r σ0 σ' ∧ OWN (D2 e D 128) σ' r ∧ MEMS e σ' w ∧ (∀ i, i < 128 → σ'.1 23 w i = if lnk e D i = true then 1 else 0) ∧ σ'.2 = σ0.2) (m_X3_findDirectFaults σ0 w r) := by
  have hc128 : cntB e.mem 128 ≤ 128 := cntB_le _ _
  have key : ∀ n k σ, k ≤ cntB e.mem 128 → cntB e.mem 128 - k < n → (MF w r σ0 σ ∧ OWN (D2 e D k) σ r ∧ MEMS e σ w ∧ (∀ i, i < 128 → σ.1 23 w i = if (lnk e D i && decide (cntB e.mem i < k)) = true then 1 else 0) ∧ σ.2 = σ0.2) →
      ok (fun σ' => MF w r σ0 σ' ∧ OWN (D2 e D 128) σ' r ∧ MEMS e σ' w ∧ (∀ i, i < 128 → σ'.1 23 w i = if lnk e D i = true then 1 else 0) ∧ σ'.2 = σ0.2) (m_X3_findDirectFaults_9 w r n σ (nI k)) := by
    intro n
    induction n with
    | zero => intro k σ _ h; omega
    | succ n ih =>
      intro k σ hk hn hS
      obtain ⟨hF, hO, hM, h23, h2⟩ := hS
      have hE := hE0.f hF
      rw [m_X3_findDirectFaults_9, hM.1]
      simp (disch := omega) only [le_n]
      by_cases e1 : k = cntB e.mem 128
      · rw [if_pos (by omega)]
        refine ok_r ⟨hF, hO.e (fun c i _ _ hi => ?_), hM, fun i hi => ?_, h2⟩
        · unfold D2
          by_cases hm : e.mem i = true
          · have := cntB_lt e.mem (a := i) (b := 128) hi hm
            simp [hm, show cntB e.mem i < k by omega, show cntB e.mem i < 128 by omega]
          · simp [hm]
        · rw [h23 i hi]
          by_cases hm : e.mem i = true
          · have := cntB_lt e.mem (a := i) (b := 128) hi hm
            simp [show cntB e.mem i < k by omega]
          · have : lnk e D i = false := by unfold lnk; simp [hm]
            simp [this]
      · obtain ⟨i, hi, hmi, hci⟩ := cnt_at e.mem 128 k (by omega)
        have h21 := hM.2.1 i hi hmi
        rw [hci] at h21
        have hki : D2 e D k 32 i = D 32 i := by unfold D2; simp
        have hOi : σ.1 32 r i = D 32 i := (hO 32 i (by omega) (by omega) hi).trans hki
        have hdf : ∀ side, side < 2 → ∀ z, m_X3_directFault σ w (e.T i side) z = some (dfV e D (e.T i side) z) := fun side hsd z => by
          rw [q_direct hV hE hO hw hi hmi hsd z, dfV_c (D := D) (D' := D2 e D k) (fun j => by unfold D2; simp)]
        rw [if_neg (by omega), chk_n (by omega) (by omega), cl_nI (by omega), h21, chk_n (by omega) (by omega), cl_nI (by omega), hOi]
        -- both ways lead here
        have fin : ok (fun σ' => MF w r σ0 σ' ∧ OWN (D2 e D 128) σ' r ∧ MEMS e σ' w ∧ (∀ i, i < 128 → σ'.1 23 w i = if lnk e D i = true then 1 else 0) ∧ σ'.2 = σ0.2)
            (m_X3_findDirectFaults_38 w r (m_X3_findDirectFaults_9 w r n) σ (if D 32 i = 0 then 1 else 0) (nI k) (nI i)) := by
          have f82 : ok (fun σ' => MF w r σ0 σ' ∧ OWN (D2 e D 128) σ' r ∧ MEMS e σ' w ∧ (∀ i, i < 128 → σ'.1 23 w i = if lnk e D i = true then 1 else 0) ∧ σ'.2 = σ0.2)
              (m_X3_findDirectFaults_82 w r (m_X3_findDirectFaults_9 w r n) σ (dfl e D i) (nI k) (nI i) (if D 32 i = 0 then 1 else 0)) := by
            have last : ∀ z : Int32, (z = if lnk e D i = true then 1 else 0) → ok (fun σ' => MF w r σ0 σ' ∧ OWN (D2 e D 128) σ' r ∧ MEMS e σ' w ∧ (∀ i, i < 128 → σ'.1 23 w i = if lnk e D i = true then 1 else 0) ∧ σ'.2 = σ0.2)
                (m_X3_findDirectFaults_9 w r n (wI (wI σ 31 r i (dfl e D i)) 23 w i z) (nI k + 1)) := by
              intro z hz
              rw [nI_1]
              refine ih (k + 1) _ (by omega) (by omega) ⟨(hF.tr (MF.w _ _ _ (Or.inr ⟨by omega, by omega, rfl⟩))).tr (MF.w _ _ _ (Or.inl ⟨by omega, by omega, rfl⟩)), ((hO.w 31 i _).e (fun c j h1 h2 hj => ?_)).o 23 w _ _ (by omega), hM.f ?_ ?_ ?_, fun j hj => ?_, h2⟩
              · unfold D2 updD
                by_cases e2 : j = i
                · subst e2
                  by_cases e3 : c = 31 <;> simp [e3, hmi, hci]
                · by_cases hmj : e.mem j = true
                  · have hne : ¬ cntB e.mem j = k := fun q => by
                      rcases Nat.lt_or_gt_of_ne e2 with z | z
                      · have := cntB_lt e.mem z hmj; omega
                      · have := cntB_lt e.mem z hmi; omega
                    by_cases e3 : cntB e.mem j < k
                    · simp [e2, hmj, e3, show cntB e.mem j < k + 1 by omega]
                    · simp [e2, hmj, e3, show ¬ cntB e.mem j < k + 1 by omega]
                  · simp [e2, hmj]
              · rw [wI_co _ _ _ _ _ (by omega), wI_co _ _ _ _ _ (by omega)]
              · rw [wI_co _ _ _ _ _ (by omega), wI_co _ _ _ _ _ (by omega)]
              · rw [wI_co _ _ _ _ _ (by omega), wI_co _ _ _ _ _ (by omega)]
              · rw [wI_1]
                by_cases e2 : j = i
                · subst e2
                  rw [if_pos ⟨rfl, rfl, rfl⟩, hz]
                  simp [hci]
                · rw [if_neg (fun q => e2 q.2.2), wI_ne _ _ _ _ _ _ (by decide), h23 j hj]
                  by_cases hmj : e.mem j = true
                  · have hne : ¬ cntB e.mem j = k := fun q => by
                      rcases Nat.lt_or_gt_of_ne e2 with z | z
                      · have := cntB_lt e.mem z hmj; omega
                      · have := cntB_lt e.mem z hmi; omega
                    by_cases e3 : cntB e.mem j < k
                    · simp [e3, show cntB e.mem j < k + 1 by omega]
                    · simp [e3, show ¬ cntB e.mem j < k + 1 by omega]
                  · have : lnk e D j = false := by unfold lnk; simp [hmj]
                    simp [this]
            unfold m_X3_findDirectFaults_82
            rw [chk_n (by omega) (by omega), cl_nI (by omega)]
            simp only [st_s]
            rw [chk_n (by omega) (by omega)]
            by_cases h32 : D 32 i = 0
            · rw [if_pos h32, if_neg (by decide)]
              by_cases hz : dfl e D i = 0
              · rw [if_pos hz, chk_n (by omega) (by omega)]
                exact last 1 (by unfold lnk; simp [hmi, h32, hz])
              · rw [if_neg hz]
                exact last 0 (by unfold lnk; simp [hz])
            · rw [if_neg h32, if_pos rfl]
              exact last 0 (by unfold lnk; simp [h32])
          unfold m_X3_findDirectFaults_38
          have ht0 := hM.2.2 i 0 hi hmi (by omega)
          have ht1 := hM.2.2 i 1 hi hmi (by omega)
          rw [ix2, chk_n (by omega) (by omega), cl_nI (by omega), show 2 * i = 2 * i + 0 from rfl, ht0, hdf 0 (by omega), bnd_s]
          have hdd : dfl e D i = if dfV e D (e.T i 0) (if D 32 i = 0 then 1 else 0) = 0 then dfV e D (e.T i 1) (if D 32 i = 0 then 1 else 0) else dfV e D (e.T i 0) (if D 32 i = 0 then 1 else 0) := rfl
          by_cases hz : dfV e D (e.T i 0) (if D 32 i = 0 then 1 else 0) = 0
          · rw [if_pos hz, show nI (2 * i + 0) + (1 : Int32) = nI (2 * i + 1) from nI_1 _, chk_n (by omega) (by omega), cl_nI (by omega), ht1, hdf 1 (by omega), bnd_s]
            rw [if_pos hz] at hdd
            rw [← hdd]
            exact f82
          · rw [if_neg hz]
            rw [if_neg hz] at hdd
            rw [← hdd]
            exact f82
        by_cases h32 : D 32 i = 0
        · rw [if_pos h32]; rw [if_pos h32] at fin; exact fin
        · rw [if_neg h32]; rw [if_neg h32] at fin; exact fin
  unfold m_X3_findDirectFaults
  rw [q_clear, bnd_s]
  show ok _ (m_X3_findDirectFaults_9 w r 1000 _ (nI 0))
  refine key 1000 0 _ (by omega) (by omega) ⟨MF.row _ _ (Or.inl ⟨by omega, by omega, rfl⟩), fun c i h1 h2 h3 => ?_, hM0.f ?_ ?_ ?_, fun i hi => ?_, rfl⟩
  · rw [rowI_1, if_neg (by omega), hO0 c i h1 h2 h3]; unfold D2; simp
  · rw [rowI_1, if_neg (by omega)]
  · rw [rowI_1, if_neg (by omega)]
  · rw [rowI_1, if_neg (by omega)]
  · rw [rowI_1, if_pos ⟨rfl, rfl⟩, if_pos hi]; simp
/-- over links, from s -/
def InR (e : EV) (L : Nat → Bool) (s x : Nat) : Prop := ∀ P : Nat → Prop, P s → (∀ y z side, P y → side < 2 → z < 128 → e.T y side = nI z → L z = true → P z) → P x
def CYC (e : EV) (L : Nat → Bool) (s : Nat) : Prop := ∃ y side, y < 128 ∧ e.mem y = true ∧ InR e L s y ∧ side < 2 ∧ e.T y side = nI s
noncomputable def cycB (e : EV) (L : Nat → Bool) (s : Nat) : Bool := @decide (CYC e L s) (Classical.propDecidable _)
theorem cycB_t {e : EV} {L : Nat → Bool} {s : Nat} : cycB e L s = true ↔ CYC e L s := by unfold cycB; exact @decide_eq_true_iff _ (Classical.propDecidable _)
/-- a maker's walk alone -/
def FW (w : Nat) (σ σ' : Sg) : Prop := (∀ c o, ¬ ((c = 24 ∨ c = 25) ∧ o = w) → σ'.1 c o = σ.1 c o) ∧ σ'.2 = σ.2
theorem FW.tr {w : Nat} {a b c : Sg} (h1 : FW w a b) (h2 : FW w b c) : FW w a c := ⟨fun x o hx => (h2.1 x o hx).trans (h1.1 x o hx), h2.2.trans h1.2⟩
theorem FW.w {w : Nat} (σ : Sg) {c : Nat} (i : Nat) (v : Int32) (h : c = 24 ∨ c = 25) : FW w σ (wI σ c w i v) := ⟨fun x o hx => wI_co σ c w i v (fun q => hx (by rw [q.1, q.2]; exact ⟨h, rfl⟩)), rfl⟩
theorem cntB_add {p q : Nat → Bool} {z : Nat} (hp : p z = false) : ∀ n, z < n → (∀ i, i < n → q i = (p i || decide (i = z))) → cntB q n = cntB p n + 1
  | 0, h, _ => absurd h (Nat.not_lt_zero z)
  | n + 1, h, hq => by
    rw [cntB, cntB, hq n (by omega)]
    by_cases e : z = n
    · subst e
      have : cntB q z = cntB p z := cntB_congr z (fun k hk => by rw [hq k (by omega), decide_eq_false (show ¬ k = z by omega), Bool.or_false])
      rw [this, hp]; simp
    · rw [cntB_add hp n (by omega) (fun i hi => hq i (by omega)), decide_eq_false (show ¬ n = z by omega), Bool.or_false]
      omega
theorem cntB_two {p : Nat → Bool} {a b n : Nat} (ha : a < n) (hb : b < n) (hab : ¬ a = b) (pa : p a = false) (pb : p b = false) : cntB p n + 2 ≤ n := by
  have h1 := cntB_add (p := p) (q := fun i => p i || decide (i = a)) pa n ha (fun _ _ => rfl)
  have h2 := cntB_add (p := fun i => p i || decide (i = a)) (q := fun i => (p i || decide (i = a)) || decide (i = b)) (z := b) (by simp [pb]; omega) n hb (fun _ _ => rfl)
  have h3 := cntB_le (fun i => (p i || decide (i = a)) || decide (i = b)) n
  omega
theorem cntB_zero : ∀ n, cntB (fun _ => false) n = 0
  | 0 => rfl
  | n + 1 => by rw [cntB, cntB_zero n]; rfl
/-- the walk, at 'at' -/
def WKI (e : EV) (L : Nat → Bool) (σ0 σ : Sg) (w s en a : Nat) : Prop :=
  FW w σ0 σ ∧ 1 ≤ en ∧ σ.1 24 w 0 = nI s ∧ (∀ k, k < en → ∃ y, y < 128 ∧ σ.1 24 w k = nI y ∧ e.mem y = true ∧ InR e L s y) ∧
  (∀ z, z < 128 → σ.1 25 w z = 0 ∨ σ.1 25 w z = 1) ∧ (∀ z, z < 128 → (¬ σ.1 25 w z = 0 ↔ ∃ k, 1 ≤ k ∧ k < en ∧ σ.1 24 w k = nI z)) ∧ σ.1 25 w s = 0 ∧
  en = 1 + cntB (fun z => decide (¬ σ.1 25 w z = 0)) 128 ∧
  ∀ k, k < a → k < en → ∀ y, y < 128 → σ.1 24 w k = nI y → ∀ side, side < 2 → ¬ e.T y side = nI s ∧ ∀ z, z < 128 → e.T y side = nI z → L z = true → ¬ σ.1 25 w z = 0
def BK (e : EV) (L : Nat → Bool) (σ0 : Sg) (w s : Nat) (q : Sg × Int32) : Prop := FW w σ0 q.1 ∧ q.2 = if cycB e L s = true then 1 else 0
set_option maxHeartbeats 1000000 in
theorem s_back {e : EV} {L : Nat → Bool} {σ0 : Sg} {w s : Nat} (hV : EOK e) (hT : ∀ i side, i < 128 → e.mem i = true → side < 2 → σ0.1 22 w (2 * i + side) = e.T i side) (hL : ∀ j, j < 128 → σ0.1 23 w j = if L j = true then 1 else 0) (hLm : ∀ j, j < 128 → L j = true → e.mem j = true) (hs : s < 128) (hms : e.mem s = true) :
    ok (BK e L σ0 w s) (m_X3_comesBack σ0 w (nI s)) := by
  -- one side of one of the walk
  have inner : ∀ (k18 : Sg → Int32 → Int32 → Option (Sg × Int32)) (a : Nat), a < 128 → (∀ σ en, WKI e L σ0 σ w s en (a + 1) → a < en → ok (BK e L σ0 w s) (k18 σ (nI en) (nI (a + 1)))) →
      ∀ n sd σ en y, sd ≤ 2 → 2 - sd < n → a < en → y < 128 → σ.1 24 w a = nI y → WKI e L σ0 σ w s en a → (∀ side, side < sd → ¬ e.T y side = nI s ∧ ∀ z, z < 128 → e.T y side = nI z → L z = true → ¬ σ.1 25 w z = 0) →
      ok (BK e L σ0 w s) (m_X3_comesBack_33 w (nI s) k18 n σ (nI en) (nI a) (nI sd)) := by
    intro k18 a ha hk n
    induction n with
    | zero => intro sd σ en y _ h; omega
    | succ n ih =>
      intro sd σ en y hsd hn haen hy hya hI hdone
      have hI0 := hI
      obtain ⟨hF, hen, h0, hwk, h01, hwd, hws, hcnt, hcl⟩ := hI0
      have hcle := cntB_le (fun z => decide (¬ σ.1 25 w z = 0)) 128
      rw [m_X3_comesBack_33]
      simp (disch := omega) only [le_2]
      by_cases e1 : sd = 2
      · subst e1
        rw [if_pos (Nat.le_refl _), nI_1]
        refine hk σ en ⟨hF, hen, h0, hwk, h01, hwd, hws, hcnt, fun k hk1 hk2 y' hy' hk3 side hside => ?_⟩ haen
        by_cases e2 : k = a
        · subst e2
          rw [hk3] at hya
          have : y' = y := (nI_eq (by omega) (by omega)).mp hya
          subst this
          exact hdone side hside
        · exact hcl k (by omega) hk2 y' hy' hk3 side hside
      · obtain ⟨y2, hy2, hy2e, hym, hyR⟩ := hwk a haen
        rw [hya] at hy2e
        have : y = y2 := (nI_eq (by omega) (by omega)).mp hy2e
        subst this
        have htt : σ.1 22 w (2 * y + sd) = e.T y sd := by rw [hF.1 22 w (by omega)]; exact hT y sd hy hym (by omega)
        rw [if_neg (by omega), chk_n (by omega) (by omega), cl_nI (by omega), hya, ix2b, chk_n (by omega) (by omega), cl_nI (by omega), htt, nI_1]
        by_cases h1 : e.T y sd = nI s
        · rw [if_pos h1]
          refine ok_r ⟨hF, ?_⟩
          show (1 : Int32) = _
          rw [if_pos (cycB_t.mpr ⟨y, sd, hy, hym, hyR, by omega, h1⟩)]
        · rw [if_neg h1]
          -- going on with nothing new
          have skip : (∀ z, z < 128 → e.T y sd = nI z → L z = true → ¬ σ.1 25 w z = 0) → ok (BK e L σ0 w s) (m_X3_comesBack_33 w (nI s) k18 n σ (nI en) (nI a) (nI (sd + 1))) := fun hz =>
            ih (sd + 1) σ en y (by omega) (by omega) haen hy hya hI (fun side hside => by
              by_cases e2 : side = sd
              · subst e2; exact ⟨h1, hz⟩
              · exact hdone side (by omega))
          rcases (hV.2 y sd hy hym (by omega)).neg with h2 | ⟨j, hj, h2⟩
          · rw [if_pos h2]
            refine skip (fun z hz q => ?_)
            rw [q, ltz (by omega)] at h2
            exact h2.elim
          · rw [h2, if_neg (by rw [ltz (by omega)]; exact id), chk_n (by omega) (by omega), cl_nI (by omega)]
            have h23 : σ.1 23 w j = if L j = true then 1 else 0 := by rw [hF.1 23 w (by omega)]; exact hL j hj
            rw [h23, ite_01]
            by_cases hLj : L j = true
            · rw [if_pos hLj, chk_n (by omega) (by omega)]
              by_cases hwj : σ.1 25 w j = 0
              · have hjs : ¬ j = s := fun q => h1 (by rw [h2, q])
                have hlim := cntB_two (p := fun z => decide (¬ σ.1 25 w z = 0)) hj hs hjs (by simp [hwj]) (by simp [hws])
                rw [if_pos hwj]
                have hen128 : en < 128 := by omega
                simp (disch := omega) only [le_128]
                rw [if_neg (by omega), chk_n (by omega) (by omega)]
                simp only [st_s]
                rw [chk_n (by omega) (by omega), cl_nI (by omega), nI_1]
                have v24 : ∀ k, (wI (wI σ 25 w j 1) 24 w en (nI j)).1 24 w k = if k = en then nI j else σ.1 24 w k := fun k => by
                  rw [wI_1]
                  by_cases e2 : k = en
                  · rw [if_pos ⟨rfl, rfl, e2⟩, if_pos e2]
                  · rw [if_neg (fun q => e2 q.2.2), if_neg e2, wI_ne _ _ _ _ _ _ (by decide)]
                have v25 : ∀ z, (wI (wI σ 25 w j 1) 24 w en (nI j)).1 25 w z = if z = j then 1 else σ.1 25 w z := fun z => by
                  rw [wI_ne _ _ _ _ _ _ (by decide), wI_1]
                  by_cases e2 : z = j
                  · rw [if_pos ⟨rfl, rfl, e2⟩, if_pos e2]
                  · rw [if_neg (fun q => e2 q.2.2), if_neg e2]
                refine ih (sd + 1) _ (en + 1) y (by omega) (by omega) (by omega) hy (by rw [v24, if_neg (by omega)]; exact hya) ⟨(hF.tr (FW.w _ _ _ (Or.inr rfl))).tr (FW.w _ _ _ (Or.inl rfl)), by omega, by rw [v24, if_neg (by omega)]; exact h0, fun k hk1 => ?_, fun z hz => ?_, fun z hz => ?_, by rw [v25, if_neg (fun q => hjs q.symm)]; exact hws, ?_, fun k hk1 hk2 y' hy' hk3 side hside => ?_⟩ (fun side hside => ?_)
                · rw [v24]
                  by_cases e2 : k = en
                  · rw [if_pos e2]
                    exact ⟨j, hj, rfl, hLm j hj hLj, fun P p0 pS => pS y j sd (hyR P p0 pS) (by omega) hj h2 hLj⟩
                  · rw [if_neg e2]; exact hwk k (by omega)
                · rw [v25]
                  by_cases e2 : z = j
                  · rw [if_pos e2]; exact Or.inr rfl
                  · rw [if_neg e2]; exact h01 z hz
                · rw [v25]
                  by_cases e2 : z = j
                  · rw [if_pos e2]
                    exact ⟨fun _ => ⟨en, hen, by omega, by rw [v24, if_pos rfl, e2]⟩, fun _ => by decide⟩
                  · rw [if_neg e2, hwd z hz]
                    constructor
                    · rintro ⟨k, q1, q2, q3⟩
                      exact ⟨k, q1, by omega, by rw [v24, if_neg (by omega)]; exact q3⟩
                    · rintro ⟨k, q1, q2, q3⟩
                      rw [v24] at q3
                      by_cases e3 : k = en
                      · rw [if_pos e3, nI_eq (by omega) (by omega)] at q3
                        exact absurd q3.symm e2
                      · rw [if_neg e3] at q3
                        exact ⟨k, q1, by omega, q3⟩
                · have hadd := cntB_add (p := fun z => decide (¬ σ.1 25 w z = 0)) (q := fun z => decide (¬ (wI (wI σ 25 w j 1) 24 w en (nI j)).1 25 w z = 0)) (z := j) (by simp [hwj]) 128 hj (fun i _ => by
                    rw [v25]
                    by_cases e2 : i = j
                    · simp [e2]
                    · simp [e2])
                  omega
                · rw [v24, if_neg (by omega)] at hk3
                  obtain ⟨g1, g2⟩ := hcl k hk1 (by omega) y' hy' hk3 side hside
                  refine ⟨g1, fun z hz q1 q2 => ?_⟩
                  rw [v25]
                  by_cases e2 : z = j
                  · rw [if_pos e2]; decide
                  · rw [if_neg e2]; exact g2 z hz q1 q2
                · by_cases e2 : side = sd
                  · subst e2
                    refine ⟨h1, fun z hz q1 _ => ?_⟩
                    rw [h2, nI_eq (by omega) (by omega)] at q1
                    rw [v25, if_pos q1.symm]; decide
                  · obtain ⟨g1, g2⟩ := hdone side (by omega)
                    refine ⟨g1, fun z hz q1 q2 => ?_⟩
                    rw [v25]
                    by_cases e3 : z = j
                    · rw [if_pos e3]; decide
                    · rw [if_neg e3]; exact g2 z hz q1 q2
              · rw [if_neg hwj]
                refine skip (fun z hz q _ => ?_)
                rw [h2, nI_eq (by omega) (by omega)] at q
                rw [← q]; exact hwj
            · rw [if_neg hLj]
              refine skip (fun z hz q hLz => ?_)
              rw [h2, nI_eq (by omega) (by omega)] at q
              rw [← q] at hLz
              exact absurd hLz hLj
  have outer : ∀ n a σ en, a ≤ en → 128 - a < n → a ≤ 128 → WKI e L σ0 σ w s en a → ok (BK e L σ0 w s) (m_X3_comesBack_18 w (nI s) n σ (nI en) (nI a)) := by
    intro n
    induction n with
    | zero => intro a σ en _ h; omega
    | succ n ih =>
      intro a σ en hae hn ha128 hI
      have hI0 := hI
      obtain ⟨hF, hen, h0, hwk, h01, hwd, hws, hcnt, hcl⟩ := hI0
      have hle : cntB (fun z => decide (¬ σ.1 25 w z = 0)) 128 + 1 ≤ 128 := by
        have h1 := cntB_add (p := fun z => decide (¬ σ.1 25 w z = 0)) (q := fun z => decide (¬ σ.1 25 w z = 0) || decide (z = s)) (z := s) (by simp [hws]) 128 hs (fun _ _ => rfl)
        have h2 := cntB_le (fun z => decide (¬ σ.1 25 w z = 0) || decide (z = s)) 128
        omega
      rw [m_X3_comesBack_18]
      simp (disch := omega) only [le_n, le_128]
      have fin : a = en → ok (BK e L σ0 w s) (some (σ, (0 : Int32))) := fun e1 => by
        refine ok_r ⟨hF, ?_⟩
        show (0 : Int32) = _
        rw [if_neg]
        intro hc
        obtain ⟨y, side, hy, hym, hyR, hsd, hTy⟩ := cycB_t.mp hc
        have hin : y < 128 ∧ ∃ k, k < en ∧ σ.1 24 w k = nI y := hyR (fun x => x < 128 ∧ ∃ k, k < en ∧ σ.1 24 w k = nI x) ⟨hs, 0, by omega, h0⟩ (fun y z side hyy hsd hz hyz hLz => by
          obtain ⟨hy1, k, hk1, hk2⟩ := hyy
          have h9 := (hcl k (by omega) hk1 y hy1 hk2 side hsd).2 z hz hyz hLz
          obtain ⟨k2, _, q2, q3⟩ := (hwd z hz).mp h9
          exact ⟨hz, k2, q2, q3⟩)
        obtain ⟨_, k, hk1, hk2⟩ := hin
        exact (hcl k (by omega) hk1 y hy hk2 side hsd).1 hTy
      by_cases e1 : a = en
      · rw [if_pos (by omega)]
        exact fin e1
      · rw [if_neg (by omega), if_neg (by omega)]
        obtain ⟨y, hy, hya, _, _⟩ := hwk a (by omega)
        show ok _ (m_X3_comesBack_33 w (nI s) (m_X3_comesBack_18 w (nI s) n) 1000 σ (nI en) (nI a) (nI 0))
        exact inner (m_X3_comesBack_18 w (nI s) n) a (by omega) (fun σ1 en1 h1 h2 => ih (a + 1) σ1 en1 (by omega) (by omega) (by omega) h1) 1000 0 σ en y (by omega) (by omega) (by omega) hy hya hI (fun side h => absurd h (by omega))
  unfold m_X3_comesBack
  rw [q_clear, bnd_s, chk_e (by decide)]
  simp only [st_s]
  show ok _ (m_X3_comesBack_18 w (nI s) 1000 (wI _ 24 w 0 (nI s)) (nI 1) (nI 0))
  have v25 : ∀ z, z < 128 → (wI (rowI σ0 25 w (fun j => if j < 128 then 0 else σ0.1 25 w j)) 24 w 0 (nI s)).1 25 w z = 0 := fun z hz => by
    rw [wI_ne _ _ _ _ _ _ (by decide), rowI_1, if_pos ⟨rfl, rfl⟩, if_pos hz]
  refine outer 1000 0 _ 1 (by omega) (by omega) (by omega) ⟨⟨fun c o hx => ?_, rfl⟩, by omega, wI_s _ _ _ _ _, fun k hk => ?_, fun z hz => Or.inl (v25 z hz), fun z hz => ?_, v25 s hs, ?_, fun k hk => absurd hk (by omega)⟩
  · rw [wI_co _ _ _ _ _ (fun q => hx ⟨Or.inl q.1, q.2⟩), rowI_1, if_neg (fun q => hx ⟨Or.inr q.1, q.2⟩)]
  · have : k = 0 := by omega
    subst this
    exact ⟨s, hs, wI_s _ _ _ _ _, hms, fun P p0 _ => p0⟩
  · rw [v25 z hz]
    exact ⟨fun q => absurd rfl q, fun ⟨k, q1, q2, _⟩ => absurd q1 (by omega)⟩
  · have : cntB (fun z => decide (¬ (wI (rowI σ0 25 w (fun j => if j < 128 then 0 else σ0.1 25 w j)) 24 w 0 (nI s)).1 25 w z = 0)) 128 = cntB (fun _ => false) 128 := cntB_congr 128 (fun k hk => by rw [v25 k hk]; simp)
    rw [this, cntB_zero]
