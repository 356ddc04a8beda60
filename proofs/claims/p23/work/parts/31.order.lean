/-! RINGS, on: the ring around a module, the order -/
/-- in one ring -/
def rgB (σ : Sg) (mc m f : Nat) : Bool := decide (f = m) || (decide (f < mc) && (bt (σ.1 14 0 m) f && bt (σ.1 14 0 f) m))
theorem q_around (σ : Sg) {mc m : Nat} (hM : MC σ mc) (hm : m < mc) : ok (fun r => ∀ f, f < 32 → bt r f = rgB σ mc m f) (m_X6_ringAround σ (nI m)) := by
  obtain ⟨hM1, hM2⟩ := hM
  have key : ∀ n o x, o ≤ mc → mc - o < n → (∀ f, f < 32 → bt x f = (decide (f = m) || (decide (f < o) && (bt (σ.1 14 0 m) f && bt (σ.1 14 0 f) m)))) → ok (fun r => ∀ f, f < 32 → bt r f = rgB σ mc m f) (m_X6_ringAround_6 σ (nI m) n x (nI o)) := by
    intro n
    induction n with
    | zero => intro o x _ h; omega
    | succ n ih =>
      intro o x ho hn hx
      rw [m_X6_ringAround_6, hM1]
      simp (disch := omega) only [le_n]
      by_cases e : o = mc
      · subst e
        rw [if_pos (Nat.le_refl _)]
        exact ok_r hx
      · rw [if_neg (by omega), chk_n (by omega) (by omega), cl_nI (by omega), q_has _ _ (by omega), bnd_s, ite_01, chk_n (by omega) (by omega), cl_nI (by omega), q_has _ _ (by omega), bnd_s, ite_01, nI_1]
        have hstep : ∀ f, (decide (f < o + 1) && (bt (σ.1 14 0 m) f && bt (σ.1 14 0 f) m)) = ((decide (f < o) && (bt (σ.1 14 0 m) f && bt (σ.1 14 0 f) m)) || (decide (f = o) && (bt (σ.1 14 0 m) o && bt (σ.1 14 0 o) m))) := by
          intro f
          by_cases e2 : f = o
          · subst e2; simp
          · by_cases e3 : f < o
            · simp [e2, e3, show f < o + 1 by omega]
            · simp [e2, e3, show ¬ f < o + 1 by omega]
        by_cases h1 : bt (σ.1 14 0 m) o = true
        · rw [if_pos h1]
          by_cases h2 : bt (σ.1 14 0 o) m = true
          · rw [if_pos h2]
            refine ih (o + 1) _ (by omega) (by omega) (fun f hf => ?_)
            rw [b_or, hx f hf, bt_one _ (by omega) hf, hstep, h1, h2]
            simp [Bool.or_assoc]
          · rw [if_neg h2]
            have h2' : bt (σ.1 14 0 o) m = false := by simpa using h2
            refine ih (o + 1) _ (by omega) (by omega) (fun f hf => ?_)
            rw [hx f hf, hstep, h2']
            simp
        · rw [if_neg h1]
          have h1' : bt (σ.1 14 0 m) o = false := by simpa using h1
          refine ih (o + 1) _ (by omega) (by omega) (fun f hf => ?_)
          rw [hx f hf, hstep, h1']
          simp
  unfold m_X6_ringAround
  show ok _ (m_X6_ringAround_6 σ (nI m) 1000 (1 <<< (nI m &&& 31)) (nI 0))
  refine key 1000 0 _ (by omega) (by omega) (fun f hf => ?_)
  rw [bt_one _ (by omega) hf]
  simp
/-- the rings of a state are those of its text -/
def RGS (σ : Sg) (mc : Nat) : Prop :=
  RT σ mc ∧ (∀ m f, m < mc → f < 32 → bt (σ.1 15 0 m) f = rgB σ mc m f) ∧
  ∃ c, c ≤ mc ∧ σ.1 18 0 0 = nI c ∧ ∃ rep : Nat → Nat, ∀ p, p < c → rep p < mc ∧ σ.1 17 0 p = σ.1 15 0 (rep p) ∧ (∀ q, q < p → bt (σ.1 17 0 q) (rep p) = false) ∧ ∀ f, f < 32 → bt (σ.1 14 0 (rep p)) f = true → bt (σ.1 15 0 (rep p)) f = true ∨ ∃ q, q < p ∧ bt (σ.1 17 0 q) f = true
theorem q_next (σ : Sg) {mc : Nat} {x : Int32} (hM : MC σ mc) : m_X6_nextBehind σ x = some (-1) ∨ ∃ m, m < mc ∧ m_X6_nextBehind σ x = some (nI m) ∧ bt x m = false ∧ ∀ f, f < 32 → bt (σ.1 14 0 m) f = true → bt (σ.1 15 0 m) f = true ∨ bt x f = true := by
  obtain ⟨hM1, hM2⟩ := hM
  have key : ∀ n m, m ≤ mc → mc - m < n → (m_X6_nextBehind_2 σ x n (nI m) = some (-1) ∨ ∃ j, j < mc ∧ m_X6_nextBehind_2 σ x n (nI m) = some (nI j) ∧ bt x j = false ∧ ∀ f, f < 32 → bt (σ.1 14 0 j) f = true → bt (σ.1 15 0 j) f = true ∨ bt x f = true) := by
    intro n
    induction n with
    | zero => intro m _ h; omega
    | succ n ih =>
      intro m hm hn
      rw [m_X6_nextBehind_2, hM1]
      simp (disch := omega) only [le_n]
      by_cases e : m = mc
      · subst e
        rw [if_pos (Nat.le_refl _)]
        exact Or.inl rfl
      · rw [if_neg (by omega), chk_n (by omega) (by omega), cl_nI (by omega), q_has _ _ (by omega), bnd_s, ite_01, nI_1, chk_n (by omega) (by omega)]
        have hih := ih (m + 1) (by omega) (by omega)
        by_cases h1 : bt x m = true
        · rw [if_pos h1]; exact hih
        · rw [if_neg h1]
          by_cases h2 : (σ.1 14 0 m &&& (σ.1 15 0 m ^^^ (-1))) &&& (x ^^^ (-1)) = 0
          · rw [if_pos h2]
            refine Or.inr ⟨m, by omega, rfl, by simpa using h1, fun f hf hb => ?_⟩
            have h3 := bt_zero.mp h2 f hf
            rw [b_and, b_and, b_xor, b_xor, b_m1 f hf, hb] at h3
            by_cases q1 : bt (σ.1 15 0 m) f = true
            · exact Or.inl q1
            · have q1' : bt (σ.1 15 0 m) f = false := by simpa using q1
              rw [q1'] at h3
              exact Or.inr (by simpa using h3)
          · rw [if_neg h2]; exact hih
  exact key 1000 0 (by omega) (by omega)
theorem s_place {σ : Sg} {mc : Nat} (x y : Int32) (hM : MC σ mc) : ok (fun σ1 => FR [16] σ σ1) (m_X6_placeModules σ x y) := by
  obtain ⟨hM1, hM2⟩ := hM
  have key : ∀ n m σ', m ≤ mc → mc - m < n → FR [16] σ σ' → ok (fun σ1 => FR [16] σ σ1) (m_X6_placeModules_2 x y n σ' (nI m)) := by
    intro n
    induction n with
    | zero => intro m σ' _ h; omega
    | succ n ih =>
      intro m σ' hm hn hF
      rw [m_X6_placeModules_2, show σ'.1 29 0 0 = nI mc from by rw [hF.1 29 (by decide)]; exact hM1]
      simp (disch := omega) only [le_n]
      by_cases e : m = mc
      · subst e
        rw [if_pos (Nat.le_refl _)]
        exact ok_r hF
      · rw [if_neg (by omega), q_has _ _ (by omega), bnd_s, nI_1]
        refine ok_i (fun _ => ih (m + 1) σ' (by omega) (by omega) hF) (fun _ => ?_)
        rw [chk_n (by omega) (by omega)]
        unfold st
        exact ih (m + 1) _ (by omega) (by omega) (hF.tr (FR.w _ 0 _ _ (by decide)))
  unfold m_X6_placeModules
  show ok _ (m_X6_placeModules_2 x y 1000 σ (nI 0))
  exact key 1000 0 σ (by omega) (by omega) (FR.rf _ _)
theorem s_order {σ : Sg} {mc : Nat} (hM : MC σ mc) (hR : RT σ mc) (h15 : ∀ m f, m < mc → f < 32 → bt (σ.1 15 0 m) f = rgB σ mc m f) : ok (fun σ1 => FR [16, 17, 18] σ σ1 ∧ RGS σ1 mc) (m_X6_settleOrder σ) := by
  obtain ⟨hM1, hM2⟩ := hM
  have key : ∀ n pl x σ', pl ≤ mc → mc - pl < n → (FR [16, 17, 18] σ σ' ∧ ∃ c, c ≤ pl ∧ σ'.1 18 0 0 = nI c ∧ (∀ f, f < 32 → (bt x f = true ↔ ∃ q, q < c ∧ bt (σ'.1 17 0 q) f = true)) ∧ ∃ rep : Nat → Nat, ∀ p, p < c → rep p < mc ∧ σ'.1 17 0 p = σ.1 15 0 (rep p) ∧ (∀ q, q < p → bt (σ'.1 17 0 q) (rep p) = false) ∧ ∀ f, f < 32 → bt (σ.1 14 0 (rep p)) f = true → bt (σ.1 15 0 (rep p)) f = true ∨ ∃ q, q < p ∧ bt (σ'.1 17 0 q) f = true) →
      ok (fun σ1 => FR [16, 17, 18] σ σ1 ∧ RGS σ1 mc) (m_X6_settleOrder_9 n σ' x (nI pl)) := by
    intro n
    induction n with
    | zero => intro pl x σ' _ h; omega
    | succ n ih =>
      intro pl x σ' hpl hn hS
      obtain ⟨hF, c, hc, h18, hx, rep, hrep⟩ := hS
      have e14 : σ'.1 14 = σ.1 14 := hF.1 14 (by decide)
      have e15 : σ'.1 15 = σ.1 15 := hF.1 15 (by decide)
      have e29 : σ'.1 29 0 0 = nI mc := by rw [hF.1 29 (by decide)]; exact hM1
      rw [m_X6_settleOrder_9, e29]
      simp (disch := omega) only [le_n]
      by_cases e : pl = mc
      · subst e
        rw [if_pos (Nat.le_refl _)]
        refine ok_r ⟨hF, ?_, ?_, c, hc, h18, rep, fun p hp => ?_⟩
        · unfold RT at *
          rw [e14]
          exact ⟨hR.1, fun m f hl => hR.2.1 m f ((LO.c (hF.1 27 (by decide)) (hF.1 28 (by decide))).mp hl), hR.2.2⟩
        · unfold rgB at *
          rw [e14, e15]; exact h15
        · rw [e14, e15]; exact hrep p hp
      · rw [if_neg (by omega)]
        rcases q_next σ' (x := x) ⟨e29, hM2⟩ with h1 | ⟨m, hm, h1, h2, h3⟩
        · rw [h1, bnd_s, if_pos rfl, nI_1]
          exact ih (pl + 1) x σ' (by omega) (by omega) ⟨hF, c, by omega, h18, hx, rep, hrep⟩
        · rw [h1, bnd_s, if_neg (nI_ne_m1 (by omega)), chk_n (by omega) (by omega), h18, chk_n (by omega) (by omega), cl_nI (by omega), cl_nI (by omega)]
          simp only [st_s]
          rw [chk_n (by omega) (by omega), wI_ne _ _ _ _ _ _ (by decide), wI_ne _ _ _ _ _ _ (by decide)]
          refine ok_b (s_place (mc := mc) _ _ ⟨by rw [wI_ne _ _ _ _ _ _ (by decide)]; exact e29, hM2⟩) (fun σ1 g => ?_)
          rw [chk_n (by omega) (by omega), nI_1]
          have k15 : σ1.1 15 0 m = σ.1 15 0 m := by rw [g.1 15 (by decide), wI_ne _ _ _ _ _ _ (by decide), e15]
          have k18 : σ1.1 18 0 0 = nI c := by rw [g.1 18 (by decide), wI_ne _ _ _ _ _ _ (by decide), h18]
          rw [k15, k18, nI_1]
          have k17 : ∀ q, (wI σ1 18 0 0 (nI (c + 1))).1 17 0 q = if q = c then σ.1 15 0 m else σ'.1 17 0 q := by
            intro q
            rw [wI_ne _ _ _ _ _ _ (by decide), g.1 17 (by decide), wI_1, e15]
            by_cases e2 : q = c
            · rw [if_pos ⟨rfl, rfl, e2⟩, if_pos e2]
            · rw [if_neg (fun z => e2 z.2.2), if_neg e2]
          refine ih (pl + 1) _ _ (by omega) (by omega) ⟨((hF.tr (FR.w _ 0 _ _ (by decide))).tr (g.up (by decide))).tr (FR.w _ 0 _ _ (by decide)), c + 1, by omega, wI_s _ _ _ _ _, fun f hf => ?_, fun p => if p = c then m else rep p, fun p hp => ?_⟩
          · rw [b_or, Bool.or_eq_true, hx f hf]
            constructor
            · rintro (⟨q, q1, q2⟩ | q)
              · exact ⟨q, by omega, by rw [k17, if_neg (by omega)]; exact q2⟩
              · exact ⟨c, by omega, by rw [k17, if_pos rfl]; exact q⟩
            · rintro ⟨q, q1, q2⟩
              rw [k17] at q2
              by_cases e2 : q = c
              · rw [if_pos e2] at q2; exact Or.inr q2
              · rw [if_neg e2] at q2; exact Or.inl ⟨q, by omega, q2⟩
          · by_cases e2 : p = c
            · subst e2
              simp only [if_true]
              refine ⟨hm, by rw [k17, if_pos rfl], fun q hq => ?_, fun f hf hb => ?_⟩
              · rw [k17, if_neg (by omega)]
                have h4 := hx m (by omega)
                rw [h2] at h4
                by_cases h5 : bt (σ'.1 17 0 q) m = true
                · exact absurd (h4.mpr ⟨q, hq, h5⟩) (by decide)
                · simpa using h5
              · rw [e14, e15] at h3
                rcases h3 f hf hb with h4 | h4
                · exact Or.inl h4
                · obtain ⟨q, q1, q2⟩ := (hx f hf).mp h4
                  exact Or.inr ⟨q, q1, by rw [k17, if_neg (by omega)]; exact q2⟩
            · simp only [if_neg e2]
              obtain ⟨z1, z2, z3, z4⟩ := hrep p (by omega)
              refine ⟨z1, by rw [k17, if_neg e2]; exact z2, fun q hq => by rw [k17, if_neg (by omega)]; exact z3 q hq, fun f hf hb => ?_⟩
              rcases z4 f hf hb with h4 | ⟨q, q1, q2⟩
              · exact Or.inl h4
              · exact Or.inr ⟨q, q1, by rw [k17, if_neg (by omega)]; exact q2⟩
  unfold m_X6_settleOrder
  unfold st
  show ok _ (m_X6_settleOrder_9 1000 (wI σ 18 0 0 0) 0 (nI 0))
  refine key 1000 0 0 _ (by omega) (by omega) ⟨FR.w _ 0 _ _ (by decide), 0, by omega, wI_s _ _ _ _ _, fun f hf => ?_, fun _ => 0, fun p hp => absurd hp (by omega)⟩
  rw [b_0]
  exact ⟨fun q => (by cases q), fun ⟨q, z, _⟩ => absurd z (by omega)⟩
theorem s_rings {σ : Sg} {mc : Nat} (hT : TX σ 0) (hM : MC σ mc) : ok (fun σ1 => FR [13, 14, 15, 16, 17, 18] σ σ1 ∧ RGS σ1 mc) (m_X6_settle σ) := by
  unfold m_X6_settle
  refine ok_b (s_leaning hT hM) (fun σa ha => ?_)
  have hMa : MC σa mc := by unfold MC at *; rw [ha.1.1 29 (by decide)]; exact hM
  have hmc := hM.2
  have key : ∀ n m σ', m ≤ mc → mc - m < n → (FR [15] σa σ' ∧ ∀ a f, a < m → f < 32 → bt (σ'.1 15 0 a) f = rgB σa mc a f) → ok (fun σ1 => FR [13, 14, 15, 16, 17, 18] σ σ1 ∧ RGS σ1 mc) (m_X6_settle_6 n σ' (nI m)) := by
    intro n
    induction n with
    | zero => intro m σ' _ h; omega
    | succ n ih =>
      intro m σ' hm hn hS
      obtain ⟨hF, hb⟩ := hS
      have e14 : σ'.1 14 = σa.1 14 := hF.1 14 (by decide)
      have hM' : MC σ' mc := by unfold MC at *; rw [hF.1 29 (by decide)]; exact hMa
      have hrg : ∀ a f, rgB σ' mc a f = rgB σa mc a f := fun a f => by unfold rgB; rw [e14]
      rw [m_X6_settle_6, hM'.1]
      simp (disch := omega) only [le_n]
      by_cases e : m = mc
      · subst e
        rw [if_pos (Nat.le_refl _)]
        have hR' : RT σ' m := by
          unfold RT at *
          rw [e14]
          exact ⟨ha.2.1, fun x f hl => ha.2.2.1 x f ((LO.c (hF.1 27 (by decide)) (hF.1 28 (by decide))).mp hl), ha.2.2.2⟩
        refine ok_b (s_order hM' hR' (fun a f h1 h2 => by rw [hrg]; exact hb a f h1 h2)) (fun σ1 g => ok_r ⟨((ha.1.up (by decide)).tr (hF.up (by decide))).tr (g.1.up (by decide)), g.2⟩)
      · rw [if_neg (by omega)]
        refine ok_b (q_around σ' hM' (by omega)) (fun r hr => ?_)
        rw [chk_n (by omega) (by omega), cl_nI (by omega), nI_1]
        unfold st
        refine ih (m + 1) _ (by omega) (by omega) ⟨hF.tr (FR.w _ 0 _ _ (by decide)), fun a f h1 h2 => ?_⟩
        rw [wI_1]
        by_cases e2 : a = m
        · subst e2
          rw [if_pos ⟨rfl, rfl, rfl⟩, hr f h2, hrg]
        · rw [if_neg (fun q => e2 q.2.2)]
          exact hb a f (by omega) h2
  show ok _ (m_X6_settle_6 1000 σa (nI 0))
  exact key 1000 0 σa (by omega) (by omega) ⟨FR.rf _ _, fun a f h => absurd h (by omega)⟩
