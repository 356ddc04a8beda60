/-! NAMES, on: what comes in by imports, from outside, within, what is wanted -/
def jn (one other : Int32) : Int32 := if one = -1 then other else if other = -1 then one else if other = one then one else -2
theorem q_joined (σ : Sg) (a b : Int32) : m_X4_joined σ a b = some (jn a b) := by
  unfold m_X4_joined jn
  repeat' split
  all_goals rfl
def foldJ (o : Nat → Int32) (af : Nat → Bool) (nm : Nat) : Nat → Int32
  | 0 => -1
  | f + 1 => if af f = true then jn (foldJ o af nm f) (o (f * 16 + nm)) else foldJ o af nm f
/-- what a name without a declaration is, by its source and the modules from which all comes -/
def brV (o : Nat → Int32) (src : Int32) (af : Nat → Bool) (nm : Nat) : Int32 := if src = -1 then foldJ o af nm 8 else o src.toNatClampNeg
/-- of a slot, or -1 -/
def SL1 (v : Int32) : Prop := v = -1 ∨ ∃ j, j < 128 ∧ v = nI j
def SL2 (v : Int32) : Prop := v = -1 ∨ v = -2 ∨ ∃ j, j < 128 ∧ v = nI j
theorem rem16 {s : Nat} (h : s < 2147483648) : nI s - nI s / 16 * 16 = nI (s % 16) := pk_rem (d := 16) h (by decide) (by decide)
theorem q_brought (σ : Sg) {s : Nat} {src froms : Int32} (hs : s < 128) (hsrc : SL1 src) : m_X4_broughtTo σ (nI s) src froms = some (brV (σ.1 6 0) src (fun f => bt froms f) (s % 16)) := by
  have key : ∀ n f, f ≤ 8 → 8 - f < n → m_X4_broughtTo_18 σ (nI s) (-1) froms n (foldJ (σ.1 6 0) (fun f => bt froms f) (s % 16) f) (nI f) = some (foldJ (σ.1 6 0) (fun f => bt froms f) (s % 16) 8) := by
    intro n
    induction n with
    | zero => intro f _ h; omega
    | succ n ih =>
      intro f hf hn
      rw [m_X4_broughtTo_18]
      by_cases e : f = 8
      · subst e; rw [if_pos (by decide)]
      · rw [if_neg (by rw [le_8 (by omega)]; omega)]
        by_cases h0 : froms = 0
        · rw [if_pos h0]
          have hz : ∀ k, bt froms k = false := fun k => by rw [h0, b_0]
          have : ∀ d, f + d ≤ 8 → foldJ (σ.1 6 0) (fun f => bt froms f) (s % 16) (f + d) = foldJ (σ.1 6 0) (fun f => bt froms f) (s % 16) f := by
            intro d
            induction d with
            | zero => intro _; rfl
            | succ d ihd =>
              intro hd
              rw [show f + (d + 1) = (f + d) + 1 from rfl, foldJ, if_neg (by rw [hz]; decide)]
              exact ihd (by omega)
          have h9 := this (8 - f) (by omega)
          rw [show f + (8 - f) = 8 by omega] at h9
          rw [h9]
        · rw [if_neg h0, q_has σ froms (by omega), bnd_s, ite_01]
          have hstep : foldJ (σ.1 6 0) (fun f => bt froms f) (s % 16) (f + 1) = if bt froms f = true then jn (foldJ (σ.1 6 0) (fun f => bt froms f) (s % 16) f) (σ.1 6 0 (f * 16 + s % 16)) else foldJ (σ.1 6 0) (fun f => bt froms f) (s % 16) f := rfl
          have h2 := ih (f + 1) (by omega) (by omega)
          by_cases hb : bt froms f = true
          · rw [if_pos hb, rem16 (by omega), ix16, chk_n (by omega) (by omega), cl_nI (by omega), q_joined, bnd_s, nI_1]
            rw [hstep, if_pos hb] at h2
            exact h2
          · rw [if_neg hb, nI_1]
            rw [hstep, if_neg hb] at h2
            exact h2
  unfold m_X4_broughtTo brV
  rcases hsrc with h | ⟨j, hj, h⟩
  · subst h
    rw [if_pos rfl, if_pos rfl]
    exact key 1000 0 (by omega) (by omega)
  · subst h
    rw [if_neg (nI_ne_m1 (by omega)), if_neg (nI_ne_m1 (by omega)), chk_n (by omega) (by omega)]
theorem brV_in {V : Int32 → Prop} (o : Nat → Int32) (src : Int32) (af : Nat → Bool) (nm : Nat) (h1 : V (-1)) (h2 : V (-2)) (hs : ¬ src = -1 → V (o src.toNatClampNeg)) (ha : ∀ f, f < 8 → af f = true → V (o (f * 16 + nm))) : V (brV o src af nm) := by
  have hf : ∀ f, f ≤ 8 → V (foldJ o af nm f) := by
    intro f
    induction f with
    | zero => intro _; exact h1
    | succ f ih =>
      intro hf
      rw [foldJ]
      by_cases h : af f = true
      · rw [if_pos h]
        unfold jn
        have := ha f (by omega) h
        have := ih (by omega)
        repeat' split
        all_goals assumption
      · rw [if_neg h]; exact ih (by omega)
  unfold brV
  by_cases h : src = -1
  · rw [if_pos h]; exact hf 8 (by omega)
  · rw [if_neg h]; exact hs h
/-- leaning: an import from a module that is there; over however many -/
def LO (σ : Sg) (mc m f : Nat) : Prop := m < mc ∧ f < mc ∧ ∃ k, k < cnt σ 0 m ∧ impFrom (imp σ 0 m k) = f
def RC (σ : Sg) (mc m f : Nat) : Prop := ∀ R : Nat → Nat → Prop, (∀ a b c, R a b → R b c → R a c) → (∀ a b, LO σ mc a b → R a b) → R m f
theorem RC.lo {σ : Sg} {mc m f : Nat} (h : LO σ mc m f) : RC σ mc m f := fun _ _ hl => hl _ _ h
theorem RC.tr {σ : Sg} {mc a b c : Nat} (h1 : RC σ mc a b) (h2 : RC σ mc b c) : RC σ mc a c := fun R ht hl => ht _ _ _ (h1 R ht hl) (h2 R ht hl)
/-- what a slot may be from outside -/
def OV (σ : Sg) (mc s : Nat) (v : Int32) : Prop := v = -1 ∨ v = -2 ∨ ∃ j, j < 128 ∧ v = nI j ∧ (j / 16 = s / 16 ∨ RC σ mc (s / 16) (j / 16))
def OUTS (σ σ' : Sg) (mc : Nat) : Prop := FR [6] σ σ' ∧ ∀ s, s < 128 → OV σ mc s (σ'.1 6 0 s) ∧ (mc * 16 ≤ s → σ'.1 6 0 s = -1)
/-- the imports' rows of a state are those of its text -/
def SIR (σ : Sg) (mc : Nat) : Prop :=
  (∀ m nm, m < mc → nm < 16 → σ.1 9 0 (m * 16 + nm) = srcG (isN nm) (imp σ 0 m) (cnt σ 0 m) (cnt σ 0 m)) ∧
  (∀ m nm, m < mc → nm < 16 → σ.1 10 0 (m * 16 + nm) = srcG (isNA nm) (imp σ 0 m) (cnt σ 0 m) (cnt σ 0 m)) ∧
  (∀ m f, m < mc → f < 32 → bt (σ.1 11 0 m) f = allG isA (imp σ 0 m) (cnt σ 0 m) (cnt σ 0 m) f) ∧
  ∀ m f, m < mc → f < 32 → bt (σ.1 12 0 m) f = allG isAA (imp σ 0 m) (cnt σ 0 m) (cnt σ 0 m) f
theorem OV.go {σ : Sg} {mc m nm f j0 : Nat} {v : Int32} (hm : m < mc) (hf : (f < mc ∧ ∃ k, k < cnt σ 0 m ∧ impFrom (imp σ 0 m k) = f)) (hnm : nm < 16) (hj0 : j0 / 16 = f) (h : OV σ mc j0 v) : OV σ mc (m * 16 + nm) v := by
  rcases h with h | h | ⟨j, h1, h2, h3⟩
  · exact Or.inl h
  · exact Or.inr (Or.inl h)
  · refine Or.inr (Or.inr ⟨j, h1, h2, Or.inr ?_⟩)
    have hl : LO σ mc m f := ⟨hm, hf.1, hf.2⟩
    rw [show (m * 16 + nm) / 16 = m by omega]
    rw [hj0] at h3
    rcases h3 with h3 | h3
    · rw [h3]; exact RC.lo hl
    · exact (RC.lo hl).tr h3
theorem s_lookedUp {σ σ' : Sg} {mc m nm : Nat} (hT : TX σ 0) (hmc : mc ≤ 8) (hR : SIR σ mc) (hO : OUTS σ σ' mc) (hm : m < mc) (hnm : nm < 16) : ok (fun v => OV σ mc (m * 16 + nm) v) (m_X4_lookedUp σ' (nI (m * 16 + nm))) := by
  obtain ⟨hF, hO⟩ := hO
  unfold m_X4_lookedUp
  rw [q_decl σ' 0 (by omega), bnd_s, ite_10]
  by_cases hd : σ'.1 26 0 (m * 16 + nm) = 0
  · rw [if_pos hd, chk_n (by omega) (by omega), dv16 (by omega), chk_n (by omega) (by omega), cl_nI (by omega), cl_nI (by omega)]
    have hs : σ'.1 10 0 (m * 16 + nm) = srcG (isNA nm) (imp σ 0 m) (cnt σ 0 m) (cnt σ 0 m) := by rw [hF.1 10 (by decide)]; exact hR.2.1 m nm hm hnm
    have hcase := srcG_of (isNA nm) (imp σ 0 m) (cnt σ 0 m) (cnt σ 0 m) (Nat.le_refl _)
    have h12 : ∀ f, f < 32 → bt (σ'.1 12 0 ((m * 16 + nm) / 16)) f = allG isAA (imp σ 0 m) (cnt σ 0 m) (cnt σ 0 m) f := fun f hf => by
      rw [hF.1 12 (by decide), show (m * 16 + nm) / 16 = m by omega]; exact hR.2.2.2 m f hm hf
    have hsl : SL1 (σ'.1 10 0 (m * 16 + nm)) := by
      rw [hs]
      rcases hcase with h | ⟨k, hk, _, h⟩
      · exact Or.inl h
      · exact Or.inr ⟨_, srcOf_lt (hT.2.1 m k (by omega) hk), h⟩
    rw [q_brought σ' (by omega) hsl, bnd_s]
    refine ok_r (brV_in (V := OV σ mc (m * 16 + nm)) _ _ _ _ (Or.inl rfl) (Or.inr (Or.inl rfl)) (fun hne => ?_) (fun f hf ha => ?_))
    · rw [hs] at hne ⊢
      rcases hcase with h | ⟨k, hk, hp, h⟩
      · exact absurd h hne
      · have h16 := hT.2.1 m k (by omega) hk
        have hlt := srcOf_lt h16
        rw [h, cl_nI (by omega)]
        have hnz : ¬ impName (imp σ 0 m k) = 0 := by
          unfold isNA isN at hp; simp at hp; exact hp.1.1
        have hdiv : srcOf (imp σ 0 m k) / 16 = impFrom (imp σ 0 m k) := by unfold srcOf; omega
        by_cases hin : impFrom (imp σ 0 m k) < mc
        · exact OV.go hm ⟨hin, k, hk, rfl⟩ hnm hdiv (hO _ hlt).1
        · exact Or.inl ((hO _ hlt).2 (by unfold srcOf; omega))
    · have h12' := h12 f (by omega)
      rw [h12'] at ha
      obtain ⟨k, hk, hp, hfe⟩ := allG_of _ _ _ _ _ (Nat.le_refl _) ha
      have hmod : (m * 16 + nm) % 16 = nm := by omega
      rw [hmod]
      by_cases hin : f < mc
      · exact OV.go hm ⟨hin, k, hk, hfe.symm⟩ hnm (by omega) (hO (f * 16 + nm) (by omega)).1
      · exact Or.inl ((hO (f * 16 + nm) (by omega)).2 (by omega))
  · rw [if_neg hd, chk_n (by omega) (by omega), q_public, bnd_s, ite_01]
    by_cases hp : bt (σ'.1 26 0 (nI (m * 16 + nm)).toNatClampNeg) 2 = true
    · rw [if_pos hp]
      exact ok_r (Or.inr (Or.inr ⟨m * 16 + nm, by omega, rfl, Or.inl rfl⟩))
    · rw [if_neg hp]
      exact ok_r (Or.inl rfl)
theorem s_outside {σ : Sg} {mc : Nat} (hT : TX σ 0) (hM : MC σ mc) (hR : SIR σ mc) : ok (fun σ1 => OUTS σ σ1 mc) (m_X4_settleOutside σ) := by
  obtain ⟨hM1, hM2⟩ := hM
  have inner : ∀ (r : Nat) (k12 : Sg → Int32 → Int32 → Option Sg), r < 1000 → (∀ σ1 x1, OUTS σ σ1 mc → ok (fun σ1 => OUTS σ σ1 mc) (k12 σ1 x1 (nI (r + 1)))) →
      ∀ n s σ' x1, s ≤ mc * 16 → mc * 16 - s < n → OUTS σ σ' mc → ok (fun σ1 => OUTS σ σ1 mc) (m_X4_settleOutside_27 k12 n σ' x1 (nI r) (nI s)) := by
    intro r k12 hr hk n
    induction n with
    | zero => intro s σ' x1 _ h; omega
    | succ n ih =>
      intro s σ' x1 hs hn hO
      rw [m_X4_settleOutside_27, show σ'.1 29 0 0 = nI mc from by rw [hO.1.1 29 (by decide)]; exact hM1, mu16]
      simp (disch := omega) only [le_n]
      by_cases e : s = mc * 16
      · subst e
        rw [if_pos (Nat.le_refl _), nI_1]
        exact hk σ' x1 hO
      · rw [if_neg (by omega)]
        have h1 := s_lookedUp (m := s / 16) (nm := s % 16) hT hM2 hR hO (by omega) (by omega)
        rw [show s / 16 * 16 + s % 16 = s by omega] at h1
        refine ok_b h1 (fun v hv => ?_)
        rw [chk_n (by omega) (by omega), cl_nI (by omega), nI_1]
        refine ok_i (fun _ => ih (s + 1) σ' x1 (by omega) (by omega) hO) (fun _ => ?_)
        rw [chk_n (by omega) (by omega)]
        unfold st
        refine ih (s + 1) _ 1 (by omega) (by omega) ⟨hO.1.tr (FR.w _ 0 s v (by decide)), fun s' hs' => ?_⟩
        rw [wI_1]
        by_cases e2 : s' = s
        · subst e2
          rw [if_pos ⟨rfl, rfl, rfl⟩]
          exact ⟨hv, fun h => by omega⟩
        · rw [if_neg (fun q => e2 q.2.2)]
          exact hO.2 s' hs'
  have outer : ∀ n r σ' x1, r ≤ 257 → 257 - r < n → OUTS σ σ' mc → ok (fun σ1 => OUTS σ σ1 mc) (m_X4_settleOutside_12 n σ' x1 (nI r)) := by
    intro n
    induction n with
    | zero => intro r σ' x1 _ h; omega
    | succ n ih =>
      intro r σ' x1 hr hn hO
      rw [m_X4_settleOutside_12]
      simp (disch := omega) only [lt_256]
      refine ok_i (fun _ => ok_r hO) (fun h => ok_i (fun _ => ok_r hO) (fun _ => ?_))
      exact inner r (m_X4_settleOutside_12 n) (by omega) (fun σ1 x1 h1 => ih (r + 1) σ1 x1 (by omega) (by omega) h1) 1000 0 σ' 0 (by omega) (by omega) hO
  unfold m_X4_settleOutside
  rw [q_fill _ _ _ _ (by decide), bnd_s]
  refine outer 1000 0 _ 1 (by omega) (by omega) ⟨FR.r _ 0 _ (by decide), fun s hs => ?_⟩
  rw [rowI_1, if_pos ⟨rfl, rfl⟩, if_pos hs]
  exact ⟨Or.inl rfl, fun _ => rfl⟩
/-- what one reference of a module looks for -/
def W1 (σ : Sg) (m nm sl : Nat) : Prop := nm < 16 ∧ σ.1 26 0 (m * 16 + nm) = 0 ∧ (σ.1 9 0 (m * 16 + nm) = nI sl ∨ (σ.1 9 0 (m * 16 + nm) = -1 ∧ sl % 16 = nm ∧ bt (σ.1 11 0 m) (sl / 16) = true))
/-- the bits of 'wanted' -/
def WB (σ : Sg) (P : Nat → Nat → Prop) : Prop := ∀ m sl, m < 8 → sl < 128 → (bt (σ.1 8 0 (m * 8 + sl / 16)) (sl % 16) = true ↔ P m sl)
theorem WB.w {σ : Sg} {P : Nat → Nat → Prop} (h : WB σ P) {m t b : Nat} (hm : m < 8) (ht : t < 8) (hb : b < 16) : WB (wI σ 8 0 (m * 8 + t) (σ.1 8 0 (m * 8 + t) ||| ((1 : Int32) <<< (nI b &&& 31)))) (fun m' sl => P m' sl ∨ (m' = m ∧ sl = t * 16 + b)) := by
  intro m' sl hm' hsl
  show _ ↔ (P m' sl ∨ (m' = m ∧ sl = t * 16 + b))
  rw [wI_1]
  by_cases e : m' * 8 + sl / 16 = m * 8 + t
  · have e1 : m' = m := by omega
    have e2 : sl / 16 = t := by omega
    rw [if_pos ⟨rfl, rfl, e⟩, b_or, bt_one b (by omega) (by omega), Bool.or_eq_true, decide_eq_true_eq, ← h m' sl hm' hsl, e1, e2]
    constructor
    · rintro (q | q)
      · exact Or.inl q
      · exact Or.inr ⟨rfl, by omega⟩
    · rintro (q | ⟨_, q⟩)
      · exact Or.inl q
      · exact Or.inr (by omega)
  · rw [if_neg (fun q => e q.2.2), h m' sl hm' hsl]
    constructor
    · exact Or.inl
    · rintro (q | ⟨q1, q2⟩)
      · exact q
      · exact absurd (by omega) e
theorem WB.c {σ : Sg} {P P' : Nat → Nat → Prop} (h : WB σ P) (hP : ∀ m sl, m < 8 → sl < 128 → (P m sl ↔ P' m sl)) : WB σ P' := fun m sl h1 h2 => (h m sl h1 h2).trans (hP m sl h1 h2)
theorem s_want {σ0 σ : Sg} {P : Nat → Nat → Prop} {m nm : Nat} (hF : FR [7, 8] σ0 σ) (hm : m < 8) (hnm : nm < 16) (hsl : SL1 (σ0.1 9 0 (m * 16 + nm))) (hW : WB σ P) :
    ok (fun σ1 => FR [7, 8] σ0 σ1 ∧ (∀ s, σ1.1 7 0 s = σ.1 7 0 s) ∧ WB σ1 (fun m' sl => P m' sl ∨ (m' = m ∧ W1 σ0 m nm sl))) (m_X4_want σ (nI m) (nI nm)) := by
  have e26 : σ.1 26 0 (m * 16 + nm) = σ0.1 26 0 (m * 16 + nm) := by rw [hF.1 26 (by decide)]
  have e9 : σ.1 9 0 (m * 16 + nm) = σ0.1 9 0 (m * 16 + nm) := by rw [hF.1 9 (by decide)]
  have e11 : σ.1 11 0 m = σ0.1 11 0 m := by rw [hF.1 11 (by decide)]
  unfold m_X4_want
  rw [if_neg (nI_ne_m1 (by omega)), ix16, q_decl σ 0 (by omega), bnd_s, ite_10, e26]
  by_cases hd : σ0.1 26 0 (m * 16 + nm) = 0
  · rw [if_pos hd, chk_n (by omega) (by omega), cl_nI (by omega), e9]
    rcases hsl with h | ⟨j, hj, h⟩
    · rw [if_pos h]
      have key : ∀ n t σ', t ≤ 8 → 8 - t < n → (FR [7, 8] σ0 σ' ∧ (∀ s, σ'.1 7 0 s = σ.1 7 0 s) ∧ WB σ' (fun m' sl => P m' sl ∨ (m' = m ∧ sl % 16 = nm ∧ sl / 16 < t ∧ bt (σ0.1 11 0 m) (sl / 16) = true))) → ok (fun σ1 => FR [7, 8] σ0 σ1 ∧ (∀ s, σ1.1 7 0 s = σ.1 7 0 s) ∧ WB σ1 (fun m' sl => P m' sl ∨ (m' = m ∧ W1 σ0 m nm sl))) (m_X4_want_66 (nI m) (nI nm) n σ' (nI t)) := by
        intro n
        induction n with
        | zero => intro t σ' _ h; omega
        | succ n ih =>
          intro t σ' ht hn hS
          obtain ⟨hF', h7, hB⟩ := hS
          rw [m_X4_want_66]
          simp (disch := omega) only [le_8]
          by_cases e : t = 8
          · subst e
            rw [if_pos (by omega)]
            refine ok_r ⟨hF', h7, hB.c (fun m' sl _ hsl => ?_)⟩
            unfold W1
            constructor
            · rintro (q | ⟨q1, q2, _, q3⟩)
              · exact Or.inl q
              · exact Or.inr ⟨q1, hnm, hd, Or.inr ⟨h, q2, q3⟩⟩
            · rintro (q | ⟨q1, _, _, q | ⟨_, q2, q3⟩⟩)
              · exact Or.inl q
              · rw [h] at q; exact absurd q.symm (nI_ne_m1 (by omega))
              · exact Or.inr ⟨q1, q2, by omega, q3⟩
          · have e11' : σ'.1 11 0 m = σ0.1 11 0 m := by rw [hF'.1 11 (by decide)]
            rw [if_neg (by omega), chk_n (by omega) (by omega), cl_nI (by omega), e11', q_has _ _ (by omega), bnd_s, ite_01]
            by_cases hb : bt (σ0.1 11 0 m) t = true
            · rw [if_pos hb, ix8, chk_n (by omega) (by omega), chk_n (by omega) (by omega), cl_nI (by omega), nI_1]
              unfold st
              refine ih (t + 1) _ (by omega) (by omega) ⟨hF'.tr (FR.w _ 0 _ _ (by decide)), fun s => by rw [wI_ne _ _ _ _ _ _ (by decide)]; exact h7 s, (hB.w hm (by omega) hnm).c (fun m' sl _ hsl => ?_)⟩
              constructor
              · rintro ((q | ⟨q1, q2, q3, q4⟩) | ⟨q1, q2⟩)
                · exact Or.inl q
                · exact Or.inr ⟨q1, q2, by omega, q4⟩
                · exact Or.inr ⟨q1, by omega, by omega, by rw [show sl / 16 = t by omega]; exact hb⟩
              · rintro (q | ⟨q1, q2, q3, q4⟩)
                · exact Or.inl (Or.inl q)
                · by_cases e2 : sl / 16 = t
                  · exact Or.inr ⟨q1, by omega⟩
                  · exact Or.inl (Or.inr ⟨q1, q2, by omega, q4⟩)
            · rw [if_neg hb, nI_1]
              refine ih (t + 1) _ (by omega) (by omega) ⟨hF', h7, hB.c (fun m' sl _ hsl => ?_)⟩
              constructor
              · rintro (q | ⟨q1, q2, q3, q4⟩)
                · exact Or.inl q
                · exact Or.inr ⟨q1, q2, by omega, q4⟩
              · rintro (q | ⟨q1, q2, q3, q4⟩)
                · exact Or.inl q
                · by_cases e2 : sl / 16 = t
                  · rw [e2] at q4; exact absurd q4 hb
                  · exact Or.inr ⟨q1, q2, by omega, q4⟩
      exact key 1000 0 σ (by omega) (by omega) ⟨hF, fun _ => rfl, hW.c (fun m' sl _ _ => ⟨Or.inl, fun q => q.elim id (fun q => absurd q.2.2.1 (by omega))⟩)⟩
    · rw [h, if_neg (nI_ne_m1 (by omega)), rem16 (by omega), dv16 (by omega), ix8, chk_n (by omega) (by omega), chk_n (by omega) (by omega), cl_nI (by omega)]
      unfold st
      refine ok_r ⟨hF.tr (FR.w _ 0 _ _ (by decide)), fun s => wI_ne _ _ _ _ _ _ (by decide), (hW.w hm (by omega) (by omega)).c (fun m' sl _ hsl => ?_)⟩
      unfold W1
      rw [h]
      constructor
      · rintro (q | ⟨q1, q2⟩)
        · exact Or.inl q
        · exact Or.inr ⟨q1, hnm, hd, Or.inl (by rw [q2]; congr 1; omega)⟩
      · rintro (q | ⟨q1, _, _, q | ⟨q, _⟩⟩)
        · exact Or.inl q
        · rw [nI_eq (by omega) (by omega)] at q
          exact Or.inr ⟨q1, by omega⟩
        · exact absurd q (nI_ne_m1 (by omega))
  · rw [if_neg hd]
    refine ok_r ⟨hF, fun _ => rfl, hW.c (fun m' sl _ _ => ⟨Or.inl, fun q => q.elim id (fun q => absurd q.2.2.1 hd)⟩)⟩
