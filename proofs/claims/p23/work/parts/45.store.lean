/-! WORKS: the store, a free result -/
def KQ (σ : Sg) (w k : Nat) : Nat := (σ.2.2 1 w k).getD 0
def SOK (σ : Sg) (w c : Nat) : Prop := σ.1 19 w 0 = nI c ∧ c ≤ lenP 1 w ∧ ∀ k, k < c → ∃ q, σ.2.2 1 w k = some q ∧ q < 30
theorem lenP1_le (w : Nat) : lenP 1 w ≤ 10 := by
  show (if w = 0 then 10 else 0) ≤ 10
  split <;> omega
theorem SOK.q {σ : Sg} {w c k : Nat} (h : SOK σ w c) (hk : k < c) : σ.2.2 1 w k = some (KQ σ w k) ∧ KQ σ w k < 30 := by
  obtain ⟨q, e, hq⟩ := h.2.2 k hk
  unfold KQ
  rw [e]
  exact ⟨rfl, hq⟩
theorem q_holds {σ : Sg} {w c : Nat} (r : Nat) (hS : SOK σ w c) : ∃ v, m_X7_holds σ w r = some v ∧ (v = 0 ∨ v = 1) ∧ (v = 0 ↔ ∀ k, k < c → ¬ KQ σ w k = r) := by
  have hc := lenP1_le w
  have hc2 := hS.2.1
  have key : ∀ n k, k ≤ c → c - k < n → (∀ i, i < k → ¬ KQ σ w i = r) → ∃ v, m_X7_holds_2 σ w r n (nI k) = some v ∧ (v = 0 ∨ v = 1) ∧ (v = 0 ↔ ∀ k, k < c → ¬ KQ σ w k = r) := by
    intro n
    induction n with
    | zero => intro m _ h; omega
    | succ n ih =>
      intro k hk hn hp
      rw [m_X7_holds_2, hS.1]
      by_cases e : k = c
      · subst e
        rw [if_pos (by rw [le_n (by omega) (by omega)]; omega)]
        exact ⟨0, rfl, Or.inl rfl, ⟨(fun _ => hp), fun _ => rfl⟩⟩
      · rw [if_neg (by rw [le_n (by omega) (by omega)]; omega), chk_n (by omega) (by omega), cl_nI (by omega), (hS.q (by omega)).1, bnd_s, chk_e (by rw [decide_eq_true_eq]; exact (hS.q (by omega)).2)]
        by_cases h0 : KQ σ w k = r
        · rw [if_pos h0]
          exact ⟨1, rfl, Or.inr rfl, ⟨(fun q => absurd q (by decide)), fun q => absurd h0 (q k (by omega))⟩⟩
        · rw [if_neg h0, nI_1]
          refine ih (k + 1) (by omega) (by omega) (fun i hi => ?_)
          by_cases e2 : i = k
          · rw [e2]; exact h0
          · exact hp i (by omega)
  unfold m_X7_holds
  show ∃ v, m_X7_holds_2 σ w r 1000 (nI 0) = some v ∧ _
  exact key 1000 0 (by omega) (by omega) (fun i hi => absurd hi (by omega))
def HLD (σ : Sg) (w c r : Nat) : Prop := (∃ m, m < 8 ∧ LQ σ w m = r) ∨ ∃ k, k < c ∧ KQ σ w k = r
theorem zb_v {v : Int32} (h : v = 0 ∨ v = 1) : zb v = true := by rcases h with rfl | rfl <;> decide
theorem q_held {σ : Sg} {w c : Nat} (r : Nat) (hL : LOK σ w) (hS : SOK σ w c) : ∃ v, m_X9_isHeld σ w r = some v ∧ (v = 0 ↔ ¬ HLD σ w c r) := by
  have key : ∀ n m, m ≤ 8 → 8 - m < n → (∀ i, i < m → ¬ LQ σ w i = r) → ∃ v, m_X9_isHeld_2 σ w r n (nI m) = some v ∧ (v = 0 ↔ ¬ HLD σ w c r) := by
    intro n
    induction n with
    | zero => intro m _ h; omega
    | succ n ih =>
      intro m hm hn hp
      rw [m_X9_isHeld_2]
      by_cases e : m = 8
      · subst e
        rw [if_pos (by decide)]
        obtain ⟨v, v1, v2, v3⟩ := q_holds r hS
        rw [v1, bnd_s, chk_e (zb_v v2)]
        refine ⟨v, rfl, v3.trans ⟨?_, ?_⟩⟩
        · rintro q (⟨m, hm, e⟩ | ⟨k, hk, e⟩)
          · exact hp m hm e
          · exact q k hk e
        · exact fun q k hk e => q (Or.inr ⟨k, hk, e⟩)
      · rw [if_neg (by rw [le_8 (by omega)]; omega), lenP0, chk_n (by omega) (by omega), cl_nI (by omega), (hL.q (by omega)).1, bnd_s, chk_e (by rw [decide_eq_true_eq]; exact (hL.q (by omega)).2)]
        by_cases h0 : LQ σ w m = r
        · rw [if_pos h0]
          exact ⟨1, rfl, ⟨(fun q => absurd q (by decide)), fun q => absurd (Or.inl ⟨m, by omega, h0⟩) q⟩⟩
        · rw [if_neg h0, nI_1]
          refine ih (m + 1) (by omega) (by omega) (fun i hi => ?_)
          by_cases e2 : i = m
          · rw [e2]; exact h0
          · exact hp i (by omega)
  unfold m_X9_isHeld
  show ∃ v, m_X9_isHeld_2 σ w r 1000 (nI 0) = some v ∧ _
  exact key 1000 0 (by omega) (by omega) (fun i hi => absurd hi (by omega))
/-- one of N + 1 numbers is none of N -/
theorem pigeon (a : Nat) : ∀ N (f : Nat → Nat), ∃ r, a ≤ r ∧ r ≤ a + N ∧ ∀ i, i < N → ¬ f i = r
  | 0, _ => ⟨a, Nat.le_refl _, Nat.le_refl _, fun i hi => absurd hi (by omega)⟩
  | N + 1, f => by
    by_cases hc : ∃ j, j < N + 1 ∧ f j = a + N + 1
    · obtain ⟨r, h1, h2, h3⟩ := pigeon a N (fun i => if f i = a + N + 1 then f N else f i)
      refine ⟨r, h1, by omega, fun i hi e => ?_⟩
      by_cases hi2 : i < N
      · have := h3 i hi2
        rw [if_neg (by omega)] at this
        exact this e
      · have ei : i = N := by omega
        subst ei
        obtain ⟨j, hj, ej⟩ := hc
        by_cases hj2 : j < i
        · have := h3 j hj2
          rw [if_pos ej] at this
          exact this e
        · have : j = i := by omega
          subst this
          omega
    · exact ⟨a + N + 1, by omega, by omega, fun i hi e => hc ⟨i, hi, e⟩⟩
def POOL (σ : Sg) (w : Nat) : Prop := ∀ k, k < lenP 3 w → σ.2.2 3 w k = some (20 * w + 1 + k)
theorem lenP3 {w : Nat} (hw : w < 2) : lenP 3 w = lenP 1 w + 9 := by
  have : w = 0 ∨ w = 1 := by omega
  rcases this with rfl | rfl <;> rfl
theorem q_free {σ : Sg} {w c : Nat} (hw : w < 2) (hL : LOK σ w) (hS : SOK σ w c) (hP : POOL σ w) : ∃ r, m_X9_freeResult σ w = some r ∧ 20 * w + 1 ≤ r ∧ r < 20 * w + 1 + lenP 3 w ∧ r < 30 ∧ ¬ HLD σ w c r := by
  have h13 := lenP3 hw
  have h1 := lenP1_le w
  have hc := hS.2.1
  have h30 : 20 * w + 1 + lenP 3 w ≤ 30 := by
    have : w = 0 ∨ w = 1 := by omega
    rcases this with rfl | rfl <;> decide
  have hex : ∃ k, k < lenP 3 w ∧ ¬ HLD σ w c (20 * w + 1 + k) := by
    obtain ⟨r, a1, a2, a3⟩ := pigeon (20 * w + 1) (8 + c) (fun i => if i < 8 then LQ σ w i else KQ σ w (i - 8))
    refine ⟨r - (20 * w + 1), by omega, ?_⟩
    rw [show 20 * w + 1 + (r - (20 * w + 1)) = r by omega]
    rintro (⟨m, hm, e⟩ | ⟨k, hk, e⟩)
    · have := a3 m (by omega)
      rw [if_pos hm] at this
      exact this e
    · have := a3 (8 + k) (by omega)
      rw [if_neg (by omega), show 8 + k - 8 = k by omega] at this
      exact this e
  have key : ∀ n x, x < lenP 3 w → lenP 3 w - x < n → (∀ i, i < x → HLD σ w c (20 * w + 1 + i)) → ∃ r, m_X9_freeResult_9 σ w n (20 * w + 1 + x) (nI (x + 1)) = some r ∧ 20 * w + 1 ≤ r ∧ r < 20 * w + 1 + lenP 3 w ∧ r < 30 ∧ ¬ HLD σ w c r := by
    intro n
    induction n with
    | zero => intro x _ h; omega
    | succ n ih =>
      intro x hx hn hp
      rw [m_X9_freeResult_9, show (Int32.ofNat (lenP 3 w)) = nI (lenP 3 w) from rfl]
      by_cases e : x + 1 = lenP 3 w
      · rw [if_pos (by rw [le_n (by omega) (by omega)]; omega)]
        refine ⟨_, rfl, by omega, by omega, by omega, fun q => ?_⟩
        obtain ⟨k, hk, hh⟩ := hex
        by_cases e2 : k = x
        · rw [e2] at hh; exact hh q
        · exact hh (hp k (by omega))
      · rw [if_neg (by rw [le_n (by omega) (by omega)]; omega)]
        obtain ⟨v, v1, v2⟩ := q_held (20 * w + 1 + x) hL hS
        rw [v1, bnd_s]
        by_cases h0 : v = 0
        · rw [if_pos h0]
          exact ⟨_, rfl, by omega, by omega, by omega, v2.mp h0⟩
        · rw [if_neg h0, chk_n (by omega) (by omega), cl_nI (by omega), hP (x + 1) (by omega), bnd_s, chk_e (by rw [decide_eq_true_eq]; omega), nI_1]
          refine ih (x + 1) (by omega) (by omega) (fun i hi => ?_)
          by_cases e2 : i = x
          · rw [e2]; exact Classical.byContradiction (fun q => h0 (v2.mpr q))
          · exact hp i (by omega)
  unfold m_X9_freeResult
  show ∃ r, chk (inb (nI 0) (lenP 3 w)) (bnd (σ.2.2 3 w (nI 0).toNatClampNeg) (fun r102 => chk (decide (r102 < 30)) (m_X9_freeResult_9 σ w 1000 r102 (nI 1)))) = some r ∧ _
  rw [chk_n (by omega) (by omega), cl_nI (by omega), hP 0 (by omega), bnd_s, chk_e (by rw [decide_eq_true_eq]; omega)]
  exact key 1000 0 (by omega) (by omega) (fun i hi => absurd hi (by omega))
/-- a result that may be fetched -/
theorem q_place {σ : Sg} {w c : Nat} (ring : Int32) (hL : LOK σ w) (hO : OSL σ) (hC : CTR σ w) (hS : SOK σ w c) : m_X9_placeInStore σ w ring = some (-1) ∨ ∃ k, k < c ∧ m_X9_placeInStore σ w ring = some (nI k) ∧ σ.1 30 (KQ σ w k) 0 = ring ∧ tsR σ w (KQ σ w k) ∧ noR σ w (KQ σ w k) := by
  have hc := lenP1_le w
  have hc2 := hS.2.1
  have key : ∀ n j, j ≤ c → j < n → m_X9_placeInStore_10 σ w ring n (if j = 0 then -1 else nI (j - 1)) = some (-1) ∨ ∃ k, k < c ∧ m_X9_placeInStore_10 σ w ring n (if j = 0 then -1 else nI (j - 1)) = some (nI k) ∧ σ.1 30 (KQ σ w k) 0 = ring ∧ tsR σ w (KQ σ w k) ∧ noR σ w (KQ σ w k) := by
    intro n
    induction n with
    | zero => intro m _ h; omega
    | succ n ih =>
      intro j hj hn
      rw [m_X9_placeInStore_10]
      by_cases e : j = 0
      · rw [if_pos e, if_pos (by decide)]
        exact Or.inl rfl
      · obtain ⟨i, rfl⟩ : ∃ i, j = i + 1 := ⟨j - 1, by omega⟩
        have go : m_X9_placeInStore_10 σ w ring n (nI i + (-1)) = some (-1) ∨ ∃ k, k < c ∧ m_X9_placeInStore_10 σ w ring n (nI i + (-1)) = some (nI k) ∧ σ.1 30 (KQ σ w k) 0 = ring ∧ tsR σ w (KQ σ w k) ∧ noR σ w (KQ σ w k) := by
          have e1 : nI i + (-1) = if i = 0 then -1 else nI (i - 1) := by
            by_cases e0 : i = 0
            · rw [if_pos e0, e0]; rfl
            · rw [if_neg e0, pm1 (by omega)]
          rw [e1]
          exact ih i (by omega) (by omega)
        rw [if_neg e, show i + 1 - 1 = i by omega, if_neg (by rw [ltz (by omega)]; exact id), chk_n (by omega) (by omega), cl_nI (by omega), (hS.q (by omega)).1, bnd_s, chk_e (by rw [decide_eq_true_eq]; exact (hS.q (by omega)).2)]
        by_cases h1 : σ.1 30 (KQ σ w i) 0 = ring
        · rw [if_pos h1]
          obtain ⟨v3, a3, b3⟩ := q_otherText (σ := σ) (w := w) (r := KQ σ w i) hC
          obtain ⟨v4, a4, b4⟩ := q_otherAnswer (σ := σ) (w := w) (r := KQ σ w i) hL hO
          rw [a3, bnd_s]
          by_cases h3 : v3 = -1
          · rw [if_pos h3, a4, bnd_s]
            by_cases h4 : v4 = -1
            · rw [if_pos h4]
              exact Or.inr ⟨i, by omega, rfl, h1, b3.mp h3, b4.mp h4⟩
            · rw [if_neg h4]; exact go
          · rw [if_neg h3]; exact go
        · rw [if_neg h1]; exact go
  have e0 : nI c - 1 = if c = 0 then -1 else nI (c - 1) := by
    by_cases e0 : c = 0
    · rw [if_pos e0, e0]; rfl
    · rw [if_neg e0, sub_1 (by omega)]
  unfold m_X9_placeInStore
  rw [hS.1, e0]
  exact key 1000 c (Nat.le_refl _) (by omega)
/-- a store alone -/
def KF (w : Nat) (σ σ' : Sg) : Prop := (∀ c o, ¬ (c = 19 ∧ o = w) → σ'.1 c o = σ.1 c o) ∧ σ'.2.1 = σ.2.1 ∧ ∀ c o, ¬ (c = 1 ∧ o = w) → σ'.2.2 c o = σ.2.2 c o
theorem KF.tr {w : Nat} {a b c : Sg} (h1 : KF w a b) (h2 : KF w b c) : KF w a c := ⟨fun x o hx => (h2.1 x o hx).trans (h1.1 x o hx), h2.2.1.trans h1.2.1, fun x o hx => (h2.2.2 x o hx).trans (h1.2.2 x o hx)⟩
theorem wP_co (σ : Sg) (c o i r : Nat) {c' o' : Nat} (h : ¬ (c' = c ∧ o' = o)) : (wP σ c o i r).2.2 c' o' = σ.2.2 c' o' := by
  funext i'
  rw [wP_1, if_neg (fun q => h ⟨q.1, q.2.1⟩)]
theorem KF.i {w : Nat} (σ : Sg) (v : Int32) : KF w σ (wI σ 19 w 0 v) := ⟨fun x y hx => wI_co σ _ _ _ v hx, rfl, fun _ _ _ => rfl⟩
theorem KF.p {w : Nat} (σ : Sg) (i r : Nat) : KF w σ (wP σ 1 w i r) := ⟨fun _ _ _ => rfl, rfl, fun x y hx => wP_co σ _ _ _ _ hx⟩
theorem s_takeOut {σ : Sg} {w c p : Nat} (hS : SOK σ w (c + 1)) (hp : p < c + 1) : ok (fun σ' => KF w σ σ' ∧ SOK σ' w c ∧ ∀ k, k < c → ∃ k', k' < c + 1 ∧ σ'.2.2 1 w k = σ.2.2 1 w k') (m_X7_takeOut σ w (nI p)) := by
  have hc := lenP1_le w
  have hc2 := hS.2.1
  unfold m_X7_takeOut
  rw [hS.1, sub_1 (by omega), st_s]
  have key : ∀ n j σ', p ≤ j → j ≤ c → c - j < n → (KF w σ σ' ∧ σ'.1 19 w 0 = nI c ∧ (∀ k, k < j → ∃ k', k' < c + 1 ∧ σ'.2.2 1 w k = σ.2.2 1 w k') ∧ ∀ k, j ≤ k → σ'.2.2 1 w k = σ.2.2 1 w k) → ok (fun σ' => KF w σ σ' ∧ SOK σ' w c ∧ ∀ k, k < c → ∃ k', k' < c + 1 ∧ σ'.2.2 1 w k = σ.2.2 1 w k') (m_X7_takeOut_12 w (nI p) n σ' (nI j)) := by
    intro n
    induction n with
    | zero => intro m _ _ _ h; omega
    | succ n ih =>
      intro j σ' h1 h2 hn hI
      obtain ⟨i1, i2, i3, i4⟩ := hI
      rw [m_X7_takeOut_12, i2]
      by_cases e : j = c
      · subst e
        rw [if_pos (by rw [le_n (by omega) (by omega)]; omega)]
        refine ok_r ⟨i1, ⟨i2, by omega, fun k hk => ?_⟩, i3⟩
        obtain ⟨k', hk', e'⟩ := i3 k hk
        rw [e']
        exact hS.2.2 k' hk'
      · rw [if_neg (by rw [le_n (by omega) (by omega)]; omega), nI_1, chk_n (by omega) (by omega), cl_nI (by omega), i4 (j + 1) (by omega), (hS.q (by omega)).1, bnd_s, chk_e (by rw [decide_eq_true_eq]; exact (hS.q (by omega)).2), chk_n (by omega) (by omega), st_s, cl_nI (by omega)]
        refine ih (j + 1) _ (by omega) (by omega) (by omega) ⟨i1.tr (KF.p _ _ _), i2, fun k hk => ?_, fun k hk => ?_⟩
        · rw [wP_1]
          by_cases e2 : k = j
          · subst e2
            rw [if_pos ⟨rfl, rfl, rfl⟩]
            exact ⟨k + 1, by omega, ((hS.q (by omega)).1).symm⟩
          · rw [if_neg (fun q => e2 q.2.2)]
            exact i3 k (by omega)
        · rw [wP_1, if_neg (by omega)]
          exact i4 k (by omega)
  exact key 1000 p _ (Nat.le_refl _) (by omega) (by omega) ⟨KF.i _ _, wI_s _ _ _ _ _, fun k hk => ⟨k, by omega, rfl⟩, fun k _ => rfl⟩
/-- behind a put -/
def PUT (w c r : Nat) (σ σ' : Sg) : Prop := KF w σ σ' ∧ ∃ c', SOK σ' w c' ∧ ∀ k, k < c' → σ'.2.2 1 w k = some r ∨ ∃ k', k' < c ∧ σ'.2.2 1 w k = σ.2.2 1 w k'
theorem s_put {σ : Sg} {w c r : Nat} (hr : r < 30) (hS : SOK σ w c) : ok (PUT w c r σ) (m_X7_put σ w r) := by
  have hc := lenP1_le w
  have hc2 := hS.2.1
  have k26 : ∀ (σ1 : Sg) (c1 : Nat), c1 < lenP 1 w → KF w σ σ1 → SOK σ1 w c1 → (∀ k, k < c1 → ∃ k', k' < c ∧ σ1.2.2 1 w k = σ.2.2 1 w k') → ok (PUT w c r σ) (m_X7_put_26 w r σ1) := by
    intro σ1 c1 h1 hF hS1 hk
    unfold m_X7_put_26
    rw [hS1.1, chk_n (by omega) (by omega), st_s, cl_nI (by omega), st_s]
    have e1 : (wP σ1 1 w c1 r).1 19 w 0 = nI c1 := hS1.1
    rw [e1, nI_1]
    refine ok_r ⟨(hF.tr (KF.p _ _ _)).tr (KF.i _ _), c1 + 1, ⟨wI_s _ _ _ _ _, by omega, fun k hk2 => ?_⟩, fun k hk2 => ?_⟩
    · rw [wI_2, wP_1]
      by_cases e2 : k = c1
      · rw [if_pos ⟨rfl, rfl, e2⟩]; exact ⟨r, rfl, hr⟩
      · rw [if_neg (fun q => e2 q.2.2)]; exact hS1.2.2 k (by omega)
    · rw [wI_2, wP_1]
      by_cases e2 : k = c1
      · rw [if_pos ⟨rfl, rfl, e2⟩]; exact Or.inl rfl
      · rw [if_neg (fun q => e2 q.2.2)]; exact Or.inr (hk k (by omega))
  unfold m_X7_put
  rw [show (Int32.ofNat (lenP 1 w)) = nI (lenP 1 w) from rfl, hS.1]
  by_cases h0 : lenP 1 w = 0
  · rw [if_pos (by rw [eq_0 (by omega)]; exact h0)]
    exact ok_r ⟨⟨fun _ _ _ => rfl, rfl, fun _ _ _ => rfl⟩, c, hS, fun k hk => absurd hk (by omega)⟩
  · rw [if_neg (by rw [eq_0 (by omega)]; exact h0)]
    by_cases h1 : c = lenP 1 w
    · rw [if_pos (by rw [eq_n (by omega) (by omega)]; exact h1)]
      obtain ⟨d, rfl⟩ : ∃ d, c = d + 1 := ⟨c - 1, by omega⟩
      refine ok_b (s_takeOut (p := 0) hS (by omega)) (fun σ1 h2 => ?_)
      exact k26 σ1 d (by omega) h2.1 h2.2.1 h2.2.2
    · rw [if_neg (by rw [eq_n (by omega) (by omega)]; exact h1)]
      exact k26 σ c (by omega) ⟨fun _ _ _ => rfl, rfl, fun _ _ _ => rfl⟩ hS (fun k hk => ⟨k, hk, rfl⟩)
theorem s_newest {σ : Sg} {w c p : Nat} (hS : SOK σ w c) (hp : p < c) : ok (fun σ' => KF w σ σ' ∧ ∃ c', SOK σ' w c' ∧ ∀ k, k < c' → ∃ k', k' < c ∧ σ'.2.2 1 w k = σ.2.2 1 w k') (m_X7_makeNewest σ w (nI p)) := by
  have hc := lenP1_le w
  have hc2 := hS.2.1
  unfold m_X7_makeNewest
  rw [chk_n (by omega) (by omega), cl_nI (by omega), (hS.q hp).1, bnd_s, chk_e (by rw [decide_eq_true_eq]; exact (hS.q hp).2)]
  obtain ⟨d, rfl⟩ : ∃ d, c = d + 1 := ⟨c - 1, by omega⟩
  refine ok_b (s_takeOut hS hp) (fun σ1 h1 => ?_)
  refine ok_b (s_put (hS.q hp).2 h1.2.1) (fun σ2 h2 => ?_)
  obtain ⟨g1, c', g2, g3⟩ := h2
  refine ok_r ⟨h1.1.tr g1, c', g2, fun k hk => ?_⟩
  rcases g3 k hk with q | ⟨k', hk', q⟩
  · exact ⟨p, hp, by rw [q]; exact (hS.q hp).1.symm⟩
  · obtain ⟨k'', hk'', q2⟩ := h1.2.2 k' hk'
    exact ⟨k'', hk'', by rw [q, q2]⟩
