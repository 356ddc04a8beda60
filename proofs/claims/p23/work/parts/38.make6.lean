/-! MAKER: a make, whole -/
def dfD : Nat → Nat → Int32 := fun c _ => if c = 31 then 1 else if c = 35 ∨ c = 36 then -1 else 0
noncomputable def D3 (e : EV) (D D' : Nat → Nat → Int32) (k : Nat) : Nat → Nat → Int32 := fun c i => if c = 31 ∧ (e.mem i = true ∧ cntB e.mem i < k ∧ lnk e D i = true ∧ cycB e (lnk e D) i = true) then 4 else D' c i
/-- a constant of another ring without a fault is plain -/
def EPL (e : EV) : Prop := ∀ s side j, s < 128 → e.mem s = true → side < 2 → j < 128 → e.T s side = nI j → inR e.ρ j = false → e.XR j = 0 → e.XF j = 0 → ¬ e.XL j = 0
/-- a fault's number -/
def FV (x : Int32) : Prop := x = 0 ∨ x = 1 ∨ x = 2 ∨ x = 3 ∨ x = 4 ∨ x = 5
/-- what is so of the states that are made -/
def RF (e : EV) (D : Nat → Nat → Int32) : Prop := ∀ i, i < 128 →
  (e.mem i = false → ∀ c, 31 ≤ c → c ≤ 36 → D c i = dfD c i) ∧
  (e.mem i = true → D 32 i = if bt (e.dec i) 1 = true then 1 else 0) ∧
  (¬ D 31 i = 0 → D 33 i = 0 ∧ D 34 i = 0 ∧ D 35 i = -1 ∧ D 36 i = -1) ∧
  (D 33 i = 0 ∨ D 33 i = 1) ∧ (¬ D 33 i = 0 → D 31 i = 0 ∧ D 35 i = -1 ∧ D 36 i = -1) ∧
  (D 32 i = 0 → D 31 i = 0 → D 33 i = 1) ∧ SL1 (D 35 i) ∧ SL1 (D 36 i) ∧ FV (D 31 i)
theorem InR.self {e : EV} {L : Nat → Bool} {s : Nat} : InR e L s s := fun _ p0 _ => p0
theorem InR.step {e : EV} {L : Nat → Bool} {s y z side : Nat} (h : InR e L s y) (hsd : side < 2) (hz : z < 128) (hT : e.T y side = nI z) (hL : L z = true) : InR e L s z := fun P p0 pS => pS y z side (h P p0 pS) hsd hz hT hL
theorem InR.tr {e : EV} {L : Nat → Bool} {a b c : Nat} (h1 : InR e L a b) (h2 : InR e L b c) : InR e L a c := h2 (fun x => InR e L a x) h1 (fun _ _ _ hy hsd hz hT hL => hy.step hsd hz hT hL)
noncomputable def inRB (e : EV) (L : Nat → Bool) (s x : Nat) : Bool := @decide (InR e L s x) (Classical.propDecidable _)
theorem inRB_t {e : EV} {L : Nat → Bool} {s x : Nat} : inRB e L s x = true ↔ InR e L s x := by unfold inRB; exact @decide_eq_true_iff _ (Classical.propDecidable _)
theorem cntB_sub {p q : Nat → Bool} : ∀ n, (∀ i, i < n → p i = true → q i = true) → cntB p n ≤ cntB q n ∧ (cntB p n = cntB q n → ∀ i, i < n → q i = true → p i = true)
  | 0, _ => ⟨Nat.le_refl _, fun _ i hi => absurd hi (Nat.not_lt_zero i)⟩
  | n + 1, h => by
    obtain ⟨h1, h2⟩ := cntB_sub n (fun i hi => h i (by omega))
    have hn := h n (by omega)
    rw [cntB, cntB]
    by_cases hp : p n = true
    · rw [if_pos hp, if_pos (hn hp)]
      refine ⟨by omega, fun he i hi hq => ?_⟩
      by_cases e : i = n
      · rw [e]; exact hp
      · exact h2 (by omega) i (by omega) hq
    · rw [if_neg hp]
      by_cases hq : q n = true
      · rw [if_pos hq]
        exact ⟨by omega, fun he => by omega⟩
      · rw [if_neg hq]
        refine ⟨by omega, fun he i hi hqi => ?_⟩
        by_cases e : i = n
        · rw [e] at hqi; exact absurd hqi hq
        · exact h2 (by omega) i (by omega) hqi
/-- no link leads on for ever, but in a cycle -/
theorem no_chain {e : EV} {L Bad : Nat → Bool} (hB : ∀ x, Bad x = true → x < 128 ∧ e.mem x = true) (hLm : ∀ j, j < 128 → L j = true → e.mem j = true) (hnx : ∀ x, Bad x = true → ∃ y side, side < 2 ∧ Bad y = true ∧ L y = true ∧ e.T x side = nI y) (hcy : ∀ x, Bad x = true → ¬ CYC e L x) : ∀ x, Bad x = true → False := by
  have key : ∀ n x, Bad x = true → cntB (fun z => inRB e L x z && Bad z) 128 ≤ n → False := by
    intro n
    induction n with
    | zero =>
      intro x hx hn
      have := cntB_lt (fun z => inRB e L x z && Bad z) (a := x) (b := 128) (hB x hx).1 (by simp only [Bool.and_eq_true]; exact ⟨inRB_t.mpr InR.self, hx⟩)
      omega
    | succ n ih =>
      intro x hx hn
      obtain ⟨y, side, hsd, hy, hLy, hT⟩ := hnx x hx
      have hxy : InR e L x y := InR.self.step hsd (hB y hy).1 hT hLy
      obtain ⟨h1, h2⟩ := cntB_sub (p := fun z => inRB e L y z && Bad z) (q := fun z => inRB e L x z && Bad z) 128 (fun i _ q => by
        simp only [Bool.and_eq_true] at q ⊢
        exact ⟨inRB_t.mpr (hxy.tr (inRB_t.mp q.1)), q.2⟩)
      by_cases he : cntB (fun z => inRB e L y z && Bad z) 128 = cntB (fun z => inRB e L x z && Bad z) 128
      · have hx2 := h2 he x (hB x hx).1 (by simp only [Bool.and_eq_true]; exact ⟨inRB_t.mpr InR.self, hx⟩)
        simp only [Bool.and_eq_true] at hx2
        have hyx := inRB_t.mp hx2.1
        -- the last step into x
        have hlast := hyx (fun t => t < 128 ∧ e.mem t = true ∧ InR e L y t ∧ (t = y ∨ ∃ z side, z < 128 ∧ e.mem z = true ∧ InR e L y z ∧ side < 2 ∧ e.T z side = nI t)) ⟨(hB y hy).1, (hB y hy).2, InR.self, Or.inl rfl⟩ (fun a b sd ha hsd' hb hTab hLb => ⟨hb, hLm b hb hLb, ha.2.2.1.step hsd' hb hTab hLb, Or.inr ⟨a, sd, ha.1, ha.2.1, ha.2.2.1, hsd', hTab⟩⟩)
        rcases hlast.2.2.2 with q | ⟨z, sd, hz, hmz, hyz, hsd', hTz⟩
        · exact hcy x hx ⟨x, side, (hB x hx).1, (hB x hx).2, InR.self, hsd, by rw [hT, q]⟩
        · exact hcy x hx ⟨z, sd, hz, hmz, hxy.tr hyz, hsd', hTz⟩
      · exact ih y hy (by omega)
  exact fun x hx => key 128 x hx (cntB_le _ _)
/-- what is given, before the states are laid out: other rings' lie in 'last' -/
def ER0 (e : EV) (σ : Sg) (w r : Nat) : Prop :=
  σ.1 30 r 0 = e.ρ ∧ (∀ s, s < 128 → inR e.ρ s = true → σ.1 26 (r + 2) s = e.dec s) ∧
  (∀ s side, s < 128 → e.mem s = true → side < 2 → ¬ refN (e.dec s) side = 0 → σ.1 7 0 (s / 16 * 16 + (refN (e.dec s) side - 1)) = e.wi (s / 16 * 16 + (refN (e.dec s) side - 1))) ∧
  (∀ m, m < 8 → bt e.ρ m = false → ∃ q, q < 30 ∧ σ.2.2 0 w m = some q ∧ ¬ q = r) ∧
  ∀ s side j, s < 128 → e.mem s = true → side < 2 → j < 128 → e.T s side = nI j → inR e.ρ j = false → ∀ q, σ.2.2 0 w (j / 16) = some q → σ.1 32 q j = e.XR j ∧ (σ.1 31 q j = 0 ↔ e.XF j = 0) ∧ σ.1 33 q j = e.XL j ∧ (¬ e.XL j = 0 → σ.1 34 q j = e.XN j)
/-- .. and what a make changes -/
def MP (w r : Nat) (σ σ' : Sg) : Prop :=
  (∀ c o, ¬ ((20 ≤ c ∧ c ≤ 25 ∧ o = w) ∨ (31 ≤ c ∧ c ≤ 36 ∧ o = r)) → σ'.1 c o = σ.1 c o) ∧ (∀ c o, ¬ (c = 1 ∧ o = r) → σ'.2.1 c o = σ.2.1 c o) ∧ ∀ c o, ¬ (c = 2 ∧ o = w) → σ'.2.2 c o = σ.2.2 c o
/-- the chain of phases behind the states -/
theorem s_phases {e : EV} (hV : EOK e) (hP : EPL e) : ∃ D : Nat → Nat → Int32, RF e D ∧ ∀ (σ0 : Sg) (w r : Nat), w < 2 → ER e σ0 w r → OWN dfD σ0 r → ok (fun σ' => MF w r σ0 σ' ∧ OWN D σ' r ∧ σ'.2.2 = σ0.2.2 ∧ ∀ i, i < 128 → σ'.2.1 1 r i = if e.mem i = true then ansOf D i else σ0.2.1 1 r i) (bnd (m_X3_findMembers σ0 w r) (fun σ103 => bnd (m_X3_findDirectFaults σ103 w r) (fun σ106 => m_X3_makeStates_50 w r 1000 σ106 0))) := by
  have hc128 : cntB e.mem 128 ≤ 128 := cntB_le _ _
  -- the states, phase by phase
  generalize hA : D1 e dfD 128 = A
  generalize hB : D2 e A 128 = B
  generalize hC : D3 e A B 128 = C
  obtain ⟨S, hS1, hS2, hS3⟩ := s_spread hV C
  obtain ⟨P, hP1, hP2, hP3⟩ := s_plain hV S
  obtain ⟨Q, hQ1, hQ2⟩ := s_calls hV P
  refine ⟨Q, ?_, ?_⟩
  · have vA : ∀ c i, A c i = if c = 32 ∧ i < 128 ∧ e.mem i = true then (if bt (e.dec i) 1 = true then 1 else 0) else dfD c i := fun c i => by rw [← hA]; rfl
    have vB : ∀ c i, i < 128 → B c i = if c = 31 ∧ e.mem i = true then dfl e A i else A c i := fun c i hi => by
      rw [← hB]
      unfold D2
      by_cases hm : e.mem i = true
      · have := cntB_lt e.mem hi hm
        simp [hm, show cntB e.mem i < 128 by omega]
      · simp [hm]
    have vC : ∀ c i, i < 128 → C c i = if c = 31 ∧ (e.mem i = true ∧ lnk e A i = true ∧ cycB e (lnk e A) i = true) then 4 else B c i := fun c i hi => by
      rw [← hC]
      unfold D3
      by_cases hm : e.mem i = true
      · have := cntB_lt e.mem hi hm
        simp [hm, show cntB e.mem i < 128 by omega]
      · simp [hm]
    -- components that stay
    have s3 : ∀ c i, i < 128 → ¬ c = 31 → S c i = A c i := fun c i hi hc => by rw [hS1.1 c i hc, vC c i hi, if_neg (fun q => hc q.1), vB c i hi, if_neg (fun q => hc q.1)]
    have sz : ∀ c i, i < 128 → ¬ c = 31 → ¬ c = 32 → S c i = dfD c i := fun c i hi h1 h2 => by rw [s3 c i hi h1, vA, if_neg (fun q => h2 q.1)]
    have nm31 : ∀ i, i < 128 → ¬ e.mem i = true → S 31 i = 1 := fun i hi hm => by
      rcases hS1.2 i with q | ⟨_, _, q, _⟩
      · rw [q, vC 31 i hi, if_neg (fun z => hm z.2.1), vB 31 i hi, if_neg (fun z => hm z.2), vA, if_neg (fun z => absurd z.1 (by decide))]; rfl
      · exact absurd q hm
    have p31 : ∀ i, P 31 i = S 31 i := fun i => hP1.1 31 i (by decide) (by decide)
    have p32 : ∀ i, P 32 i = S 32 i := fun i => hP1.1 32 i (by decide) (by decide)
    have q31 : ∀ i, Q 31 i = S 31 i := fun i => by rw [hQ1.1 31 i (by omega), p31]
    have q32 : ∀ i, i < 128 → Q 32 i = A 32 i := fun i hi => by rw [hQ1.1 32 i (by omega), p32, s3 32 i hi (by decide)]
    have q33 : ∀ i, Q 33 i = P 33 i := fun i => hQ1.1 33 i (by omega)
    have pp : ∀ i, i < 128 → (P 33 i = 0 ∧ P 34 i = 0) ∨ (P 33 i = 1 ∧ S 31 i = 0 ∧ e.mem i = true) := fun i hi => by
      rcases hP1.2 i with ⟨z1, z2⟩ | ⟨_, z2, z3, z4, _⟩
      · exact Or.inl ⟨by rw [z1, sz 33 i hi (by decide) (by decide)]; rfl, by rw [z2, sz 34 i hi (by decide) (by decide)]; rfl⟩
      · exact Or.inr ⟨z2, z3, z4⟩
    have p35 : ∀ i, i < 128 → P 35 i = -1 := fun i hi => by rw [hP1.1 35 i (by decide) (by decide), sz 35 i hi (by decide) (by decide)]; rfl
    have p36 : ∀ i, i < 128 → P 36 i = -1 := fun i hi => by rw [hP1.1 36 i (by decide) (by decide), sz 36 i hi (by decide) (by decide)]; rfl
    -- a state without fault has no direct fault
    have nodf : ∀ i, i < 128 → e.mem i = true → S 31 i = 0 → dfl e A i = 0 ∧ ¬ (lnk e A i = true ∧ cycB e (lnk e A) i = true) := fun i hi hm h0 => by
      have hc0 : C 31 i = 0 := by
        rcases hS1.2 i with q | ⟨q, _⟩
        · rw [← q]; exact h0
        · exact q
      rw [vC 31 i hi] at hc0
      by_cases hcc : lnk e A i = true ∧ cycB e (lnk e A) i = true
      · rw [if_pos ⟨rfl, hm, hcc⟩] at hc0; exact absurd hc0 (by decide)
      · rw [if_neg (fun q => hcc q.2.2), vB 31 i hi, if_pos ⟨rfl, hm⟩] at hc0
        exact ⟨hc0, hcc⟩
    have hCP : ∀ i, i < 128 → A 32 i = 0 → S 31 i = 0 → P 33 i = 1 := by
      intro i0 hi0 h32 h31
      rcases pp i0 hi0 with ⟨h33, _⟩ | ⟨h33, _⟩
      · exfalso
        refine no_chain (e := e) (L := lnk e A) (Bad := fun x => (decide (x < 128) && e.mem x) && ((decide (A 32 x = 0) && decide (S 31 x = 0)) && decide (P 33 x = 0))) (fun x hx => ?_) (fun j _ h => ?_) (fun x hx => ?_) (fun x hx => ?_) i0 ?_
        · simp only [Bool.and_eq_true, decide_eq_true_eq] at hx; exact hx.1
        · unfold lnk at h; simp only [Bool.and_eq_true] at h; exact h.1
        · simp only [Bool.and_eq_true, decide_eq_true_eq] at hx
          obtain ⟨⟨hx1, hxm⟩, ⟨hx2, hx3⟩, hx4⟩ := hx
          have hps := hP2 x hx1 hxm (by rw [p31]; exact hx3) hx4
          have hst := hS2 x hx1 hxm hx3
          have hdf := (nodf x hx1 hxm hx3).1
          have hdv : ∀ side, side < 2 → dfV e A (e.T x side) 1 = 0 := by
            unfold dfl at hdf
            rw [if_pos hx2] at hdf
            by_cases z : dfV e A (e.T x 0) 1 = 0
            · rw [if_pos z] at hdf
              intro side hsd
              have : side = 0 ∨ side = 1 := by omega
              rcases this with rfl | rfl
              · exact z
              · exact hdf
            · rw [if_neg z] at hdf; exact absurd hdf z
          have hex : ∃ side, side < 2 ∧ ¬ nocB e P (e.T x side) = true := by
            by_cases z : nocB e P (e.T x 0) = true
            · exact ⟨1, by omega, fun q => hps ⟨z, q⟩⟩
            · exact ⟨0, by omega, z⟩
          obtain ⟨side, hsd, hno⟩ := hex
          obtain ⟨j, hj, hTj⟩ := (hV.2 x side hx1 hxm hsd).noc hno
          have hfl : fltB e S (e.T x side) = false := by
            have : side = 0 ∨ side = 1 := by omega
            rcases this with rfl | rfl
            · exact hst.1
            · exact hst.2
          have hdj := hdv side hsd
          rw [hTj] at hno hfl hdj
          have f0 : lk e S e.XF 31 j = 0 := by
            unfold fltB at hfl
            rw [cl_nI (by omega)] at hfl
            simp (disch := omega) [ltz] at hfl
            exact hfl
          have l0 : lk e P e.XL 33 j = 0 := by
            unfold nocB at hno
            rw [cl_nI (by omega)] at hno
            simp (disch := omega) [ltz] at hno
            exact hno
          have r0 : lk e A e.XR 32 j = 0 := by
            unfold dfV at hdj
            rw [if_neg (nI_ne_m1 (by omega)), if_neg (nI_ne_m2 (by omega)), if_neg (by decide), if_neg (by rw [ltz (by omega)]; exact id), cl_nI (by omega)] at hdj
            by_cases z : lk e A e.XR 32 j = 0
            · exact z
            · rw [if_neg z] at hdj; exact absurd hdj (by decide)
          unfold lk at f0 l0 r0
          by_cases hR : inR e.ρ j = true
          · rw [if_pos hR] at f0 l0 r0
            have hmj : e.mem j = true := by
              by_cases z : e.mem j = true
              · exact z
              · rw [nm31 j hj z] at f0; exact absurd f0 (by decide)
            refine ⟨j, side, hsd, ?_, ?_, hTj⟩
            · simp only [Bool.and_eq_true, decide_eq_true_eq]
              exact ⟨⟨hj, hmj⟩, ⟨r0, f0⟩, l0⟩
            · unfold lnk
              simp only [Bool.and_eq_true, decide_eq_true_eq]
              exact ⟨hmj, r0, (nodf j hj hmj f0).1⟩
          · rw [if_neg hR] at f0 l0 r0
            exact absurd l0 (hP x side j hx1 hxm hsd hj hTj (by simpa using hR) r0 f0)
        · simp only [Bool.and_eq_true, decide_eq_true_eq] at hx
          obtain ⟨⟨hx1, hxm⟩, ⟨hx2, hx3⟩, hx4⟩ := hx
          intro hc
          obtain ⟨n1, n2⟩ := nodf x hx1 hxm hx3
          exact n2 ⟨by unfold lnk; simp only [Bool.and_eq_true, decide_eq_true_eq]; exact ⟨hxm, hx2, n1⟩, cycB_t.mpr hc⟩
        · simp only [Bool.and_eq_true, decide_eq_true_eq]
          have hm0 : e.mem i0 = true := by
            by_cases z : e.mem i0 = true
            · exact z
            · rw [nm31 i0 hi0 z] at h31; exact absurd h31 (by decide)
          exact ⟨⟨hi0, hm0⟩, ⟨h32, h31⟩, h33⟩
      · exact h33
    intro i hi
    refine ⟨fun hm c h1 h2 => ?_, fun hm => ?_, fun h => ?_, ?_, fun h => ?_, fun h1 h2 => ?_, ?_, ?_, ?_⟩
    · have hm' : ¬ e.mem i = true := by simp [hm]
      rw [hQ1.1 c i (fun q => hm' q.2.2.2.1)]
      have hc : c = 31 ∨ c = 32 ∨ c = 33 ∨ c = 34 ∨ c = 35 ∨ c = 36 := by omega
      rcases hc with rfl | rfl | rfl | rfl | rfl | rfl
      · rw [p31, nm31 i hi hm']; rfl
      · rw [p32, s3 32 i hi (by decide), vA, if_neg (fun q => hm' q.2.2)]
      · rcases pp i hi with z | z
        · rw [z.1]; rfl
        · exact absurd z.2.2 hm'
      · rcases pp i hi with z | z
        · rw [z.2]; rfl
        · exact absurd z.2.2 hm'
      · rw [p35 i hi]; rfl
      · rw [p36 i hi]; rfl
    · rw [q32 i hi, vA, if_pos ⟨rfl, hi, hm⟩]
    · rw [q31] at h
      have hz : ¬ (P 31 i = 0) := by rw [p31]; exact h
      rw [q33, hQ1.1 34 i (fun q => hz q.2.2.2.2.1), hQ1.1 35 i (fun q => hz q.2.2.2.2.1), hQ1.1 36 i (fun q => hz q.2.2.2.2.1)]
      rcases pp i hi with z | z
      · exact ⟨z.1, z.2, p35 i hi, p36 i hi⟩
      · exact absurd z.2.1 h
    · rw [q33]
      rcases pp i hi with z | z
      · exact Or.inl z.1
      · exact Or.inr z.1
    · rw [q33] at h
      rw [q31, hQ1.1 35 i (fun q => h q.2.2.2.2.2), hQ1.1 36 i (fun q => h q.2.2.2.2.2)]
      rcases pp i hi with z | z
      · exact absurd z.1 h
      · exact ⟨z.2.1, p35 i hi, p36 i hi⟩
    · rw [q33]
      exact hCP i hi (by rw [← q32 i hi]; exact h1) (by rw [← q31]; exact h2)
    · exact (hQ1.2 i).1 (Or.inl (p35 i hi))
    · exact (hQ1.2 i).2 (Or.inl (p36 i hi))
    · have fvd : ∀ x k, FV (dfV e A x k) := fun x k => by
        unfold dfV FV
        split
        · exact Or.inr (Or.inl rfl)
        · split
          · exact Or.inr (Or.inr (Or.inl rfl))
          · split
            · exact Or.inl rfl
            · split
              · exact Or.inl rfl
              · split
                · exact Or.inl rfl
                · exact Or.inr (Or.inr (Or.inr (Or.inl rfl)))
      have fvl : FV (dfl e A i) := by
        unfold dfl
        generalize (if A 32 i = 0 then (1 : Int32) else 0) = z
        split
        · exact fvd _ _
        · exact fvd _ _
      rw [q31]
      rcases hS1.2 i with q | ⟨_, q, _⟩
      · rw [q, vC 31 i hi]
        split
        · exact Or.inr (Or.inr (Or.inr (Or.inr (Or.inl rfl))))
        · rw [vB 31 i hi]
          split
          · exact fvl
          · rw [vA, if_neg (fun z => absurd z.1 (by decide))]
            exact Or.inr (Or.inl rfl)
      · rw [q]; exact Or.inr (Or.inr (Or.inr (Or.inr (Or.inr rfl))))
  · intro σ0 w r hw hE hO
    have hBck : ∀ j, j < 128 → lnk e A j = true → e.mem j = true := fun j _ h => by unfold lnk at h; simp only [Bool.and_eq_true] at h; exact h.1
    refine ok_b (s_members hV hw hE hO) (fun σa ha => ?_)
    obtain ⟨a1, a2, a3, a4⟩ := ha
    rw [hA] at a2
    refine ok_b (s_direct hV hw (hE.f a1) a2 a3) (fun σb hb => ?_)
    obtain ⟨b1, b2, b3, b4, b5⟩ := hb
    rw [hB] at b2
    have key : ∀ n k σ, k ≤ cntB e.mem 128 → cntB e.mem 128 - k < n → (STT e (D3 e A B k) σ0 σ w r ∧ ∀ i, i < 128 → σ.1 23 w i = if lnk e A i = true then 1 else 0) →
        ok (fun σ' => MF w r σ0 σ' ∧ OWN Q σ' r ∧ σ'.2.2 = σ0.2.2 ∧ ∀ i, i < 128 → σ'.2.1 1 r i = if e.mem i = true then ansOf Q i else σ0.2.1 1 r i) (m_X3_makeStates_50 w r n σ (nI k)) := by
      intro n
      induction n with
      | zero => intro k σ _ h; omega
      | succ n ih =>
        intro k σ hk hn hI
        obtain ⟨hS, h23⟩ := hI
        have hS0 := hS
        obtain ⟨hF, hO', hM, h2⟩ := hS0
        rw [m_X3_makeStates_50, hM.1]
        simp (disch := omega) only [le_n]
        by_cases e1 : k = cntB e.mem 128
        · rw [if_pos (by omega)]
          have hSC : STT e C σ0 σ w r := ⟨hF, hO'.e (fun c i _ _ hi => by
            rw [← hC]
            unfold D3
            by_cases hm : e.mem i = true
            · have := cntB_lt e.mem hi hm
              simp [hm, show cntB e.mem i < k by omega, show cntB e.mem i < 128 by omega]
            · simp [hm]), hM, h2⟩
          refine ok_b (hS3 σ0 σ w r hw hE hSC) (fun σ1 g1 => ok_b (hP3 σ0 σ1 w r hw hE g1) (fun σ2 g2 => ok_b (hQ2 σ0 σ2 w r hw hE g2) (fun σ3 g3 => ok_b (s_answers hw hE g3) (fun σ4 g4 => ok_r g4))))
        · obtain ⟨i, hi, hmi, hci⟩ := cnt_at e.mem 128 k (by omega)
          have h21 := hM.2.1 i hi hmi
          rw [hci] at h21
          rw [if_neg (by omega), chk_n (by omega) (by omega), cl_nI (by omega), h21, chk_n (by omega) (by omega), cl_nI (by omega), h23 i hi, ite_01, nI_1, chk_n (by omega) (by omega)]
          -- where nothing changes but the walk
          have keep : ∀ σ1 : Sg, STT e (D3 e A B k) σ0 σ1 w r → (∀ i, i < 128 → σ1.1 23 w i = if lnk e A i = true then 1 else 0) → ¬ (lnk e A i = true ∧ cycB e (lnk e A) i = true) →
              ok (fun σ' => MF w r σ0 σ' ∧ OWN Q σ' r ∧ σ'.2.2 = σ0.2.2 ∧ ∀ i, i < 128 → σ'.2.1 1 r i = if e.mem i = true then ansOf Q i else σ0.2.1 1 r i) (m_X3_makeStates_50 w r n σ1 (nI (k + 1))) := by
            intro σ1 hS1' h23' hno
            refine ih (k + 1) σ1 (by omega) (by omega) ⟨⟨hS1'.1, hS1'.2.1.e (fun c j _ _ hj => ?_), hS1'.2.2⟩, h23'⟩
            unfold D3
            by_cases hm : e.mem j = true
            · by_cases e2 : j = i
              · subst e2
                by_cases q1 : lnk e A j = true
                · have q2 : ¬ cycB e (lnk e A) j = true := fun z => hno ⟨q1, z⟩
                  simp [q2]
                · simp [q1]
              · have hne : ¬ cntB e.mem j = k := fun q => e2 (mem_inj hm hmi (by omega))
                by_cases e3 : cntB e.mem j < k
                · simp [hm, e3, show cntB e.mem j < k + 1 by omega]
                · simp [hm, e3, show ¬ cntB e.mem j < k + 1 by omega]
            · simp [hm]
          by_cases hl : lnk e A i = true
          · rw [if_pos hl]
            refine ok_b2 (s_back (L := lnk e A) hV (fun j side hj hmj hsd => hM.2.2 j side hj hmj hsd) h23 hBck hi hmi) (fun σ1 v hq => ?_)
            obtain ⟨q1, q2⟩ := hq
            dsimp only at q1 q2
            have hS1' : STT e (D3 e A B k) σ0 σ1 w r := ⟨hF.tr ⟨fun c o hx => q1.1 c o (fun z => hx (Or.inl ⟨by omega, by omega, z.2⟩)), fun c o _ => by rw [q1.2], by rw [q1.2]⟩, fun c j h1 h2' h3 => by rw [q1.1 c r (by omega)]; exact hO' c j h1 h2' h3, hM.f (q1.1 20 w (by omega)) (q1.1 21 w (by omega)) (q1.1 22 w (by omega)), by rw [q1.2]; exact h2⟩
            have h23' : ∀ i, i < 128 → σ1.1 23 w i = if lnk e A i = true then 1 else 0 := fun j hj => by rw [q1.1 23 w (by omega)]; exact h23 j hj
            rw [q2, ite_01]
            by_cases hcy : cycB e (lnk e A) i = true
            · have h21' : σ1.1 21 w k = nI i := by rw [q1.1 21 w (by omega)]; exact h21
              rw [if_pos hcy, chk_n (by omega) (by omega), h21', chk_n (by omega) (by omega), cl_nI (by omega)]
              simp only [st_s]
              refine ih (k + 1) _ (by omega) (by omega) ⟨⟨hS1'.1.tr (MF.w _ _ _ (Or.inr ⟨by omega, by omega, rfl⟩)), (hS1'.2.1.w 31 i 4).e (fun c j _ _ hj => ?_), hS1'.2.2.1.f (wI_co _ _ _ _ _ (by omega)) (wI_co _ _ _ _ _ (by omega)) (wI_co _ _ _ _ _ (by omega)), hS1'.2.2.2⟩, fun j hj => by rw [wI_ne _ _ _ _ _ _ (by decide)]; exact h23' j hj⟩
              unfold D3 updD
              by_cases e2 : j = i
              · subst e2
                by_cases e3 : c = 31
                · simp [e3, hmi, hci, hl, hcy]
                · simp [e3]
              · by_cases hm : e.mem j = true
                · have hne : ¬ cntB e.mem j = k := fun q => e2 (mem_inj hm hmi (by omega))
                  by_cases e3 : cntB e.mem j < k
                  · simp [e2, hm, e3, show cntB e.mem j < k + 1 by omega]
                  · simp [e2, hm, e3, show ¬ cntB e.mem j < k + 1 by omega]
                · simp [e2, hm]
            · rw [if_neg hcy]
              exact keep σ1 hS1' h23' (fun z => hcy z.2)
          · rw [if_neg hl]
            exact keep σ hS h23 (fun z => hl z.1)
    show ok _ (m_X3_makeStates_50 w r 1000 σb (nI 0))
    refine key 1000 0 σb (by omega) (by omega) ⟨⟨a1.tr b1, b2.e (fun c i _ _ _ => by unfold D3; simp), b3, by rw [b5, a4]⟩, b4⟩
/-- a make: what comes out follows from what is given -/
theorem s_make {e : EV} (hV : EOK e) (hP : EPL e) : ∃ D : Nat → Nat → Int32, RF e D ∧ ∀ (σ0 : Sg) (w r : Nat), w < 2 → r < 30 → ER0 e σ0 w r → OWN dfD σ0 r → (∀ i, i < 128 → σ0.2.1 1 r i = ansOf dfD i) → ok (fun σ' => MP w r σ0 σ' ∧ OWN D σ' r ∧ ∀ i, i < 128 → σ'.2.1 1 r i = ansOf D i) (m_X3_makeStates σ0 w r) := by
  obtain ⟨D, hD, hph⟩ := s_phases hV hP
  refine ⟨D, hD, fun σ0 w r hw hr hE hO hJ => ?_⟩
  obtain ⟨e1, e2, e3, e4, e5⟩ := hE
  have key : ∀ n m σ, m ≤ 8 → 8 - m < n → (σ.1 = σ0.1 ∧ σ.2.1 = σ0.2.1 ∧ (∀ c o, ¬ (c = 2 ∧ o = w) → σ.2.2 c o = σ0.2.2 c o) ∧ ∀ m', m' < m → (bt e.ρ m' = true → σ.2.2 2 w m' = some r) ∧ (bt e.ρ m' = false → σ.2.2 2 w m' = σ0.2.2 0 w m')) →
      ok (fun σ' => MP w r σ0 σ' ∧ OWN D σ' r ∧ ∀ i, i < 128 → σ'.2.1 1 r i = ansOf D i) (m_X3_makeStates_2 w r n σ (nI m)) := by
    intro n
    induction n with
    | zero => intro m σ _ h; omega
    | succ n ih =>
      intro m σ hm hn hI
      obtain ⟨i1, i2, i3, i4⟩ := hI
      rw [m_X3_makeStates_2]
      simp (disch := omega) only [le_8]
      by_cases z : m = 8
      · subst z
        rw [if_pos (by omega)]
        have hE : ER e σ w r := by
          refine ⟨by rw [i1]; exact e1, by rw [i1]; exact e2, by rw [i1]; exact e3, fun m hm => ?_, fun s side j hs hmm hsd hj hT hR q hq => ?_⟩
          · by_cases hb : bt e.ρ m = true
            · exact ⟨r, hr, (i4 m hm).1 hb, fun _ => rfl, fun q => by rw [hb] at q; cases q⟩
            · have hb' : bt e.ρ m = false := by simpa using hb
              obtain ⟨q, q1, q2, q3⟩ := e4 m hm hb'
              exact ⟨q, q1, by rw [(i4 m hm).2 hb']; exact q2, fun z => absurd z hb, fun _ => q3⟩
          · rw [(i4 (j / 16) (by omega)).2 hR] at hq
            rw [i1]
            exact e5 s side j hs hmm hsd hj hT hR q hq
        refine ok_w (hph σ w r hw hE (fun c i h1 h2 h3 => by rw [i1]; exact hO c i h1 h2 h3)) (fun σ' g => ?_)
        obtain ⟨g1, g2, g3, g4⟩ := g
        refine ⟨⟨fun c o hx => by rw [g1.1 c o hx, i1], fun c o hx => by rw [g1.2.1 c o hx, i2], fun c o hx => by rw [g3]; exact i3 c o hx⟩, g2, fun i hi => ?_⟩
        rw [g4 i hi]
        by_cases hmi : e.mem i = true
        · rw [if_pos hmi]
        · rw [if_neg hmi, i2, hJ i hi]
          have hd := (hD i hi).1 (by simpa using hmi)
          unfold ansOf
          rw [hd 31 (by omega) (by omega), hd 32 (by omega) (by omega), hd 33 (by omega) (by omega), hd 34 (by omega) (by omega)]
      · have hρ : σ.1 30 r 0 = e.ρ := by rw [i1]; exact e1
        rw [if_neg (by omega), hρ, q_has _ _ (by omega), bnd_s, ite_01, nI_1]
        have l2 : lenP 2 w = 8 := rfl
        have l0 : lenP 0 w = 8 := rfl
        have hnx : ∀ q, ((bt e.ρ m = true → q = r) ∧ (bt e.ρ m = false → some q = σ0.2.2 0 w m)) → ok (fun σ' => MP w r σ0 σ' ∧ OWN D σ' r ∧ ∀ i, i < 128 → σ'.2.1 1 r i = ansOf D i) (m_X3_makeStates_2 w r n (wP σ 2 w m q) (nI (m + 1))) := fun q hq => by
          refine ih (m + 1) _ (by omega) (by omega) ⟨i1, i2, fun c o hx => ?_, fun m' hm' => ?_⟩
          · funext i'
            rw [wP_1, if_neg (fun z => hx ⟨z.1, z.2.1⟩), i3 c o hx]
          · rw [wP_1]
            by_cases e2' : m' = m
            · subst e2'
              rw [if_pos ⟨rfl, rfl, rfl⟩]
              exact ⟨fun z => by rw [hq.1 z], fun z => hq.2 z⟩
            · rw [if_neg (fun z => e2' z.2.2)]
              exact i4 m' (by omega)
        by_cases hb : bt e.ρ m = true
        · rw [if_pos hb, l2, chk_n (by omega) (by omega), cl_nI (by omega)]
          exact hnx r ⟨fun _ => rfl, fun q => by rw [hb] at q; cases q⟩
        · have hb' : bt e.ρ m = false := by simpa using hb
          obtain ⟨q, q1, q2, q3⟩ := e4 m (by omega) hb'
          rw [if_neg hb, l0, l2, chk_n (by omega) (by omega), cl_nI (by omega), i3 0 w (by omega), q2, bnd_s, chk_e (decide_eq_true q1), chk_n (by omega) (by omega)]
          exact hnx q ⟨fun z => absurd z hb, fun _ => q2.symm⟩
  unfold m_X3_makeStates
  show ok _ (m_X3_makeStates_2 w r 1000 σ0 (nI 0))
  exact key 1000 0 σ0 (by omega) (by omega) ⟨rfl, rfl, fun _ _ _ => rfl, fun m' h => absurd h (by omega)⟩
