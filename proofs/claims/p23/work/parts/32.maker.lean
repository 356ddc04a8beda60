/-! MAKER: what it is given, what it looks up. ρ the ring, dec its declarations, wi 'within', XR XF XL XN the states of other rings -/
def inR (ρ : Int32) (s : Nat) : Bool := bt ρ (s / 16)
def memB (ρ : Int32) (dec : Nat → Int32) (s : Nat) : Bool := inR ρ s && decide (¬ dec s = 0)
def tgt (dec wi : Nat → Int32) (s side : Nat) : Int32 := if refN (dec s) side = 0 then -3 else wi (s / 16 * 16 + (refN (dec s) side - 1))
abbrev EV : Type := Int32 × (Nat → Int32) × (Nat → Int32) × (Nat → Int32) × (Nat → Int32) × (Nat → Int32) × (Nat → Int32)
abbrev EV.ρ (e : EV) : Int32 := e.1
abbrev EV.dec (e : EV) : Nat → Int32 := e.2.1
abbrev EV.wi (e : EV) : Nat → Int32 := e.2.2.1
abbrev EV.XR (e : EV) : Nat → Int32 := e.2.2.2.1
abbrev EV.XF (e : EV) : Nat → Int32 := e.2.2.2.2.1
abbrev EV.XL (e : EV) : Nat → Int32 := e.2.2.2.2.2.1
abbrev EV.XN (e : EV) : Nat → Int32 := e.2.2.2.2.2.2
abbrev EV.mem (e : EV) (s : Nat) : Bool := memB e.ρ e.dec s
abbrev EV.T (e : EV) (s side : Nat) : Int32 := tgt e.dec e.wi s side
/-- a target: nothing, or a slot -/
def TG (x : Int32) : Prop := x = -3 ∨ x = -1 ∨ x = -2 ∨ ∃ j, j < 128 ∧ x = nI j
/-- what is given is in range -/
def EOK (e : EV) : Prop := (∀ s side, s < 128 → e.mem s = true → side < 2 → refN (e.dec s) side ≤ 16) ∧ ∀ s side, s < 128 → e.mem s = true → side < 2 → TG (e.T s side)
/-- what is given is what lies there -/
def ER (e : EV) (σ : Sg) (w r : Nat) : Prop :=
  σ.1 30 r 0 = e.ρ ∧ (∀ s, s < 128 → inR e.ρ s = true → σ.1 26 (r + 2) s = e.dec s) ∧
  (∀ s side, s < 128 → e.mem s = true → side < 2 → ¬ refN (e.dec s) side = 0 → σ.1 7 0 (s / 16 * 16 + (refN (e.dec s) side - 1)) = e.wi (s / 16 * 16 + (refN (e.dec s) side - 1))) ∧
  (∀ m, m < 8 → ∃ q, q < 30 ∧ σ.2.2 2 w m = some q ∧ (bt e.ρ m = true → q = r) ∧ (bt e.ρ m = false → ¬ q = r)) ∧
  ∀ s side j, s < 128 → e.mem s = true → side < 2 → j < 128 → e.T s side = nI j → inR e.ρ j = false → ∀ q, σ.2.2 2 w (j / 16) = some q → σ.1 32 q j = e.XR j ∧ (σ.1 31 q j = 0 ↔ e.XF j = 0) ∧ σ.1 33 q j = e.XL j ∧ (¬ e.XL j = 0 → σ.1 34 q j = e.XN j)
/-- what a maker w may change as it makes r -/
def MF (w r : Nat) (σ σ' : Sg) : Prop :=
  (∀ c o, ¬ ((20 ≤ c ∧ c ≤ 25 ∧ o = w) ∨ (31 ≤ c ∧ c ≤ 36 ∧ o = r)) → σ'.1 c o = σ.1 c o) ∧ (∀ c o, ¬ (c = 1 ∧ o = r) → σ'.2.1 c o = σ.2.1 c o) ∧ σ'.2.2 = σ.2.2
theorem MF.rf (w r : Nat) (σ : Sg) : MF w r σ σ := ⟨fun _ _ _ => rfl, fun _ _ _ => rfl, rfl⟩
theorem MF.tr {w r : Nat} {a b c : Sg} (h1 : MF w r a b) (h2 : MF w r b c) : MF w r a c := ⟨fun x o hx => (h2.1 x o hx).trans (h1.1 x o hx), fun x o hx => (h2.2.1 x o hx).trans (h1.2.1 x o hx), h2.2.2.trans h1.2.2⟩
theorem wI_co (σ : Sg) (c o i : Nat) (v : Int32) {c' o' : Nat} (h : ¬ (c' = c ∧ o' = o)) : (wI σ c o i v).1 c' o' = σ.1 c' o' := by
  funext i'
  rw [wI_1, if_neg (fun q => h ⟨q.1, q.2.1⟩)]
theorem MF.w {w r : Nat} (σ : Sg) {c o : Nat} (i : Nat) (v : Int32) (h : (20 ≤ c ∧ c ≤ 25 ∧ o = w) ∨ (31 ≤ c ∧ c ≤ 36 ∧ o = r)) : MF w r σ (wI σ c o i v) :=
  ⟨fun x y hx => wI_co σ c o i v (fun q => hx (by rw [q.1, q.2]; exact h)), fun _ _ _ => rfl, rfl⟩
theorem MF.row {w r : Nat} (σ : Sg) {c o : Nat} (f : Nat → Int32) (h : (20 ≤ c ∧ c ≤ 25 ∧ o = w) ∨ (31 ≤ c ∧ c ≤ 36 ∧ o = r)) : MF w r σ (rowI σ c o f) :=
  ⟨fun x y hx => by rw [rowI_1, if_neg (fun q => hx (by rw [q.1, q.2]; exact h))], fun _ _ _ => rfl, rfl⟩
theorem wJ_co (σ : Sg) (c o i : Nat) (v : Int64) {c' o' : Nat} (h : ¬ (c' = c ∧ o' = o)) : (wJ σ c o i v).2.1 c' o' = σ.2.1 c' o' := by
  funext i'
  rw [wJ_1, if_neg (fun q => h ⟨q.1, q.2.1⟩)]
theorem MF.j {w r : Nat} (σ : Sg) (i : Nat) (v : Int64) : MF w r σ (wJ σ 1 r i v) :=
  ⟨fun _ _ _ => rfl, fun x y hx => wJ_co σ 1 r i v hx, rfl⟩
theorem ER.f {e : EV} {w r : Nat} {σ σ' : Sg} (hF : MF w r σ σ') (h : ER e σ w r) : ER e σ' w r := by
  obtain ⟨h1, h2, h3, h4, h5⟩ := h
  refine ⟨by rw [hF.1 30 r (by omega)]; exact h1, fun s hs hr => by rw [hF.1 26 _ (by omega)]; exact h2 s hs hr, fun s side hs hm hsd h0 => by rw [hF.1 7 0 (by omega)]; exact h3 s side hs hm hsd h0, fun m hm => by rw [hF.2.2]; exact h4 m hm, fun s side j hs hm hsd hj hT hR q hq => ?_⟩
  rw [hF.2.2] at hq
  obtain ⟨q', _, hq', _, hne⟩ := h4 (j / 16) (by omega)
  rw [hq] at hq'
  cases hq'
  have hqr : ¬ q = r := hne hR
  rw [hF.1 32 q (by omega), hF.1 31 q (by omega), hF.1 33 q (by omega), hF.1 34 q (by omega)]
  exact h5 s side j hs hm hsd hj hT hR q hq
/-- the states that are made, in r -/
def OWN (D : Nat → Nat → Int32) (σ : Sg) (r : Nat) : Prop := ∀ c i, 31 ≤ c → c ≤ 36 → i < 128 → σ.1 c r i = D c i
/-- a state's part, of the ring itself or of another -/
def lk (e : EV) (D : Nat → Nat → Int32) (X : Nat → Int32) (c j : Nat) : Int32 := if inR e.ρ j = true then D c j else X j
def fltB (e : EV) (D : Nat → Nat → Int32) (x : Int32) : Bool := decide (¬ x < 0) && decide (¬ lk e D e.XF 31 x.toNatClampNeg = 0)
def nocB (e : EV) (D : Nat → Nat → Int32) (x : Int32) : Bool := decide (x < 0) || decide (¬ lk e D e.XL 33 x.toNatClampNeg = 0)
def dfV (e : EV) (D : Nat → Nat → Int32) (x k : Int32) : Int32 := if x = -1 then 1 else if x = -2 then 2 else if k = 0 then 0 else if x < 0 then 0 else if lk e D e.XR 32 x.toNatClampNeg = 0 then 0 else 3
def nwS (e : EV) (D : Nat → Nat → Int32) (x : Int32) : Int32 := if x < 0 then 0 else if nocB e D x = true then lk e D e.XN 34 x.toNatClampNeg else 0
section LOOK
variable {e : EV} {D : Nat → Nat → Int32} {σ : Sg} {w r s side : Nat}
theorem TG.neg {x : Int32} (h : TG x) : x < 0 ∨ ∃ j, j < 128 ∧ x = nI j := by
  rcases h with rfl | rfl | rfl | h
  · exact Or.inl (by decide)
  · exact Or.inl (by decide)
  · exact Or.inl (by decide)
  · exact Or.inr h
/-- which state a target names -/
theorem look (hE : ER e σ w r) (hO : OWN D σ r) (hw : w < 2) {j : Nat} (hj : j < 128) : ∃ q, q < 30 ∧ σ.2.2 2 w (j / 16) = some q ∧ (inR e.ρ j = true → ∀ c, 31 ≤ c → c ≤ 36 → σ.1 c q j = D c j) := by
  obtain ⟨q, h1, h2, h3, h4⟩ := hE.2.2.2.1 (j / 16) (by omega)
  refine ⟨q, h1, h2, fun hR c hc1 hc2 => ?_⟩
  rw [h3 hR]
  exact hO c j hc1 hc2 hj
theorem lenP2 (w : Nat) : lenP 2 w = 8 := rfl
theorem q_isFaulty (hV : EOK e) (hE : ER e σ w r) (hO : OWN D σ r) (hw : w < 2) (hs : s < 128) (hm : e.mem s = true) (hsd : side < 2) : m_X3_isFaulty σ w (e.T s side) = some (if fltB e D (e.T s side) = true then 1 else 0) := by
  unfold m_X3_isFaulty
  rcases (hV.2 s side hs hm hsd).neg with h | ⟨j, hj, h⟩
  · rw [if_pos h, if_neg (by unfold fltB; simp [h])]
  · obtain ⟨q, h1, h2, h3⟩ := look hE hO hw hj
    have hx := hE.2.2.2.2 s side j hs hm hsd hj h
    rw [h]
    have hf : fltB e D (nI j) = decide (¬ lk e D e.XF 31 j = 0) := by unfold fltB; rw [cl_nI (by omega)]; simp (disch := omega) [ltz]
    rw [hf, if_neg (by rw [ltz (by omega)]; exact id), dv16 (by omega), lenP2, chk_n (by omega) (by omega), cl_nI (by omega), h2, bnd_s, chk_e (decide_eq_true h1), chk_n (by omega) (by omega), cl_nI (by omega)]
    unfold lk
    by_cases hR : inR e.ρ j = true
    · rw [if_pos hR, h3 hR 31 (by omega) (by omega)]
      by_cases h0 : D 31 j = 0 <;> simp [h0]
    · rw [if_neg hR]
      have := (hx (by simpa using hR) q h2).2.1
      by_cases h0 : e.XF j = 0
      · rw [if_pos (this.mpr h0)]; simp [h0]
      · rw [if_neg (fun z => h0 (this.mp z))]; simp [h0]
theorem q_noCall (hV : EOK e) (hE : ER e σ w r) (hO : OWN D σ r) (hw : w < 2) (hs : s < 128) (hm : e.mem s = true) (hsd : side < 2) : m_X3_isNoCall σ w (e.T s side) = some (if nocB e D (e.T s side) = true then 1 else 0) := by
  unfold m_X3_isNoCall
  rcases (hV.2 s side hs hm hsd).neg with h | ⟨j, hj, h⟩
  · rw [if_pos h, if_pos (by unfold nocB; simp [h])]
  · obtain ⟨q, h1, h2, h3⟩ := look hE hO hw hj
    have hx := hE.2.2.2.2 s side j hs hm hsd hj h
    rw [h]
    have hf : nocB e D (nI j) = decide (¬ lk e D e.XL 33 j = 0) := by unfold nocB; rw [cl_nI (by omega)]; simp (disch := omega) [ltz]
    rw [hf, if_neg (by rw [ltz (by omega)]; exact id), dv16 (by omega), lenP2, chk_n (by omega) (by omega), cl_nI (by omega), h2, bnd_s, chk_e (decide_eq_true h1), chk_n (by omega) (by omega), cl_nI (by omega)]
    unfold lk
    by_cases hR : inR e.ρ j = true
    · rw [if_pos hR, h3 hR 33 (by omega) (by omega)]
      by_cases h0 : D 33 j = 0 <;> simp [h0]
    · rw [if_neg hR, (hx (by simpa using hR) q h2).2.2.1]
      by_cases h0 : e.XL j = 0 <;> simp [h0]
theorem q_direct (hV : EOK e) (hE : ER e σ w r) (hO : OWN D σ r) (hw : w < 2) (hs : s < 128) (hm : e.mem s = true) (hsd : side < 2) (k : Int32) : m_X3_directFault σ w (e.T s side) k = some (dfV e D (e.T s side) k) := by
  unfold m_X3_directFault dfV
  by_cases a1 : e.T s side = -1
  · rw [if_pos a1, if_pos a1]
  · rw [if_neg a1, if_neg a1]
    by_cases a2 : e.T s side = -2
    · rw [if_pos a2, if_pos a2]
    · rw [if_neg a2, if_neg a2]
      by_cases a3 : k = 0
      · rw [if_pos a3, if_pos a3]
      · rw [if_neg a3, if_neg a3]
        rcases (hV.2 s side hs hm hsd).neg with h | ⟨j, hj, h⟩
        · rw [if_pos h, if_pos h]
        · obtain ⟨q, h1, h2, h3⟩ := look hE hO hw hj
          have hx := hE.2.2.2.2 s side j hs hm hsd hj h
          rw [h, if_neg (by rw [ltz (by omega)]; exact id), if_neg (by rw [ltz (by omega)]; exact id), dv16 (by omega), lenP2, chk_n (by omega) (by omega), cl_nI (by omega), h2, bnd_s, chk_e (decide_eq_true h1), chk_n (by omega) (by omega), cl_nI (by omega)]
          unfold lk
          by_cases hR : inR e.ρ j = true
          · rw [if_pos hR, h3 hR 32 (by omega) (by omega)]
            by_cases h0 : D 32 j = 0 <;> simp [h0]
          · rw [if_neg hR, (hx (by simpa using hR) q h2).1]
            by_cases h0 : e.XR j = 0 <;> simp [h0]
/-- the number with those of its targets -/
def numOf (x : Int32) : Int32 := ((x >>> ((3 : Int32) &&& 31)) &&& 255) - 99
def nwV (e : EV) (D : Nat → Nat → Int32) (s : Nat) : Int32 := numOf (e.dec s) + nwS e D (e.T s 0) + nwS e D (e.T s 1)
theorem q_numWT (hV : EOK e) (hE : ER e σ w r) (hO : OWN D σ r) (hw : w < 2) (hs : s < 128) (hm : e.mem s = true) (hT : ∀ side, side < 2 → σ.1 22 w (2 * s + side) = e.T s side) : m_X3_numberWithTargets σ w r (nI s) = some (nwV e D s) := by
  have hin : inR e.ρ s = true := by unfold EV.mem memB at hm; simp at hm; exact hm.1
  have one : ∀ side x, side < 2 → ∀ n, m_X3_numberWithTargets_16 σ w r (nI s) (n + 1) x (nI side) = m_X3_numberWithTargets_16 σ w r (nI s) n (x + nwS e D (e.T s side)) (nI (side + 1)) := by
    intro side x hsd n
    rw [m_X3_numberWithTargets_16, if_neg (by rw [le_2 (by omega)]; omega), ix2b, chk_n (by omega) (by omega), cl_nI (by omega), hT side hsd, nI_1]
    unfold nwS
    rcases (hV.2 s side hs hm hsd).neg with h | ⟨j, hj, h⟩
    · rw [if_pos h, if_pos h, Int32.add_zero]
    · rw [if_neg (by rw [h, ltz (by omega)]; exact id), if_neg (by rw [h, ltz (by omega)]; exact id), q_noCall hV hE hO hw hs hm hsd, bnd_s, ite_01]
      by_cases hc : nocB e D (e.T s side) = true
      · rw [if_pos hc, if_pos hc]
        obtain ⟨q, h1, h2, h3⟩ := look hE hO hw hj
        have hx := hE.2.2.2.2 s side j hs hm hsd hj h
        rw [h] at hc ⊢
        rw [dv16 (by omega), lenP2, chk_n (by omega) (by omega), cl_nI (by omega), h2, bnd_s, chk_e (decide_eq_true h1), chk_n (by omega) (by omega), cl_nI (by omega)]
        unfold lk
        by_cases hR : inR e.ρ j = true
        · rw [if_pos hR, h3 hR 34 (by omega) (by omega)]
        · rw [if_neg hR]
          have hL : ¬ e.XL j = 0 := by
            unfold nocB lk at hc
            rw [cl_nI (by omega), if_neg hR] at hc
            simp (disch := omega) [ltz] at hc
            exact hc
          rw [(hx (by simpa using hR) q h2).2.2.2 hL]
      · rw [if_neg hc, if_neg hc, Int32.add_zero]
  unfold m_X3_numberWithTargets
  rw [chk_n (by omega) (by omega), cl_nI (by omega), hE.2.1 s hs hin]
  have h0 : m_X1_numberOf σ (e.dec s) = some (numOf (e.dec s)) := rfl
  rw [h0, bnd_s]
  show m_X3_numberWithTargets_16 σ w r (nI s) (999 + 1) (numOf (e.dec s)) (nI 0) = _
  rw [one 0 _ (by omega) 999]
  show m_X3_numberWithTargets_16 σ w r (nI s) (998 + 1) _ (nI 1) = _
  rw [one 1 _ (by omega) 998]
  show m_X3_numberWithTargets_16 σ w r (nI s) (997 + 1) _ (nI 2) = _
  rw [m_X3_numberWithTargets_16, if_pos (by decide)]
  rfl
end LOOK
theorem cnt_at (p : Nat → Bool) : ∀ n k, k < cntB p n → ∃ i, i < n ∧ p i = true ∧ cntB p i = k
  | 0, k, h => absurd h (Nat.not_lt_zero k)
  | n + 1, k, h => by
    rw [cntB] at h
    by_cases h1 : k < cntB p n
    · obtain ⟨i, a, b, c⟩ := cnt_at p n k h1
      exact ⟨i, by omega, b, c⟩
    · by_cases hp : p n = true
      · rw [if_pos hp] at h
        exact ⟨n, by omega, hp, by omega⟩
      · rw [if_neg hp] at h; omega
theorem cntB_mono (p : Nat → Bool) {a b : Nat} (h : a ≤ b) : cntB p a ≤ cntB p b := by
  induction b with
  | zero => have : a = 0 := by omega
            subst this; exact Nat.le_refl _
  | succ b ih =>
    by_cases e : a = b + 1
    · subst e; exact Nat.le_refl _
    · have := ih (by omega)
      rw [cntB]; split <;> omega
theorem cntB_lt (p : Nat → Bool) {a b : Nat} (h : a < b) (hp : p a = true) : cntB p a < cntB p b := by
  have h1 := cntB_mono p (a := a + 1) (b := b) h
  rw [cntB, if_pos hp] at h1
  omega
/-- the members, their targets, as they are laid -/
def MEMS (e : EV) (σ : Sg) (w : Nat) : Prop :=
  σ.1 20 w 0 = nI (cntB e.mem 128) ∧ (∀ i, i < 128 → e.mem i = true → σ.1 21 w (cntB e.mem i) = nI i) ∧ ∀ i side, i < 128 → e.mem i = true → side < 2 → σ.1 22 w (2 * i + side) = e.T i side
