/-! ENV: what a maker is given, as a value -/
noncomputable def ifP {α : Type} (P : Prop) (a b : α) : α := @ite α P (Classical.propDecidable P) a b
theorem ifP_t {α : Type} {P : Prop} {a b : α} (h : P) : ifP P a b = a := by unfold ifP; exact @if_pos P (Classical.propDecidable P) h _ _ _
theorem ifP_f {α : Type} {P : Prop} {a b : α} (h : ¬ P) : ifP P a b = b := by unfold ifP; exact @if_neg P (Classical.propDecidable P) h _ _ _
def cdec (ρ : Int32) (dec : Nat → Int32) (s : Nat) : Int32 := if s < 128 ∧ inR ρ s = true then dec s else 0
/-- a slot to which a member refers -/
def rsl (ρ : Int32) (dec : Nat → Int32) (x : Nat) : Prop := ∃ s side, s < 128 ∧ memB ρ dec s = true ∧ side < 2 ∧ ¬ refN (dec s) side = 0 ∧ x = s / 16 * 16 + (refN (dec s) side - 1)
/-- a declaration of another ring to which one does -/
def tgj (ρ : Int32) (dec wi : Nat → Int32) (j : Nat) : Prop := j < 128 ∧ inR ρ j = false ∧ ∃ x, rsl ρ dec x ∧ wi x = nI j
noncomputable def nEV (ρ : Int32) (dec wi : Nat → Int32) (an : Nat → Int64) : EV :=
  (ρ, cdec ρ dec, (fun x => ifP (rsl ρ (cdec ρ dec) x) (wi x) 0),
   (fun j => ifP (tgj ρ (cdec ρ dec) wi j) (if ab (an j) 8 = true then 0 else 1) 0),
   (fun j => ifP (tgj ρ (cdec ρ dec) wi j) (if ab (an j) 9 = true then 1 else 0) 0),
   (fun j => ifP (tgj ρ (cdec ρ dec) wi j) (if ab (an j) 10 = true ∨ (ab (an j) 8 = true ∧ ab (an j) 9 = false) then 1 else 0) 0),
   (fun j => ifP (tgj ρ (cdec ρ dec) wi j) (numA (an j)) 0))
theorem ifP_c {α : Type} {P Q : Prop} {a b c : α} (h : P ↔ Q) (h2 : P → a = b) : ifP P a c = ifP Q b c := by
  by_cases p : P
  · rw [ifP_t p, ifP_t (h.mp p), h2 p]
  · rw [ifP_f p, ifP_f (fun q => p (h.mpr q))]
theorem nEV_eq {ρ : Int32} {d1 d2 w1 w2 : Nat → Int32} {a1 a2 : Nat → Int64} (h1 : ∀ s, s < 128 → inR ρ s = true → d1 s = d2 s) (h2 : ∀ x, rsl ρ (cdec ρ d1) x → w1 x = w2 x) (h3 : ∀ j, tgj ρ (cdec ρ d1) w1 j → a1 j = a2 j) : nEV ρ d1 w1 a1 = nEV ρ d2 w2 a2 := by
  have e1 : cdec ρ d1 = cdec ρ d2 := by
    funext s
    unfold cdec
    by_cases h : s < 128 ∧ inR ρ s = true
    · rw [if_pos h, if_pos h, h1 s h.1 h.2]
    · rw [if_neg h, if_neg h]
  have e2 : ∀ j, tgj ρ (cdec ρ d1) w1 j ↔ tgj ρ (cdec ρ d2) w2 j := by
    intro j
    unfold tgj
    rw [← e1]
    constructor
    · rintro ⟨p, q, x, hx, hy⟩; exact ⟨p, q, x, hx, by rw [← h2 x hx]; exact hy⟩
    · rintro ⟨p, q, x, hx, hy⟩; exact ⟨p, q, x, hx, by rw [h2 x hx]; exact hy⟩
  unfold nEV
  rw [← e1]
  have e2' : ∀ j, tgj ρ (cdec ρ d1) w1 j ↔ tgj ρ (cdec ρ d1) w2 j := fun j => by rw [e2 j, e1]
  refine Prod.ext rfl (Prod.ext rfl (Prod.ext ?_ (Prod.ext ?_ (Prod.ext ?_ (Prod.ext ?_ ?_)))))
  · funext x; exact ifP_c Iff.rfl (fun p => h2 x p)
  · funext j; exact ifP_c (e2' j) (fun p => by rw [h3 j p])
  · funext j; exact ifP_c (e2' j) (fun p => by rw [h3 j p])
  · funext j; exact ifP_c (e2' j) (fun p => by rw [h3 j p])
  · funext j; exact ifP_c (e2' j) (fun p => by rw [h3 j p])
theorem cdec_in {ρ : Int32} {dec : Nat → Int32} {s : Nat} (hs : s < 128) (hr : inR ρ s = true) : cdec ρ dec s = dec s := by unfold cdec; rw [if_pos ⟨hs, hr⟩]
theorem cdec_mem {ρ : Int32} {dec : Nat → Int32} {s : Nat} (hm : memB ρ (cdec ρ dec) s = true) : s < 128 ∧ inR ρ s = true ∧ cdec ρ dec s = dec s ∧ ¬ dec s = 0 := by
  unfold memB at hm
  simp only [Bool.and_eq_true, decide_eq_true_eq] at hm
  obtain ⟨a, b⟩ := hm
  unfold cdec at b
  by_cases h : s < 128 ∧ inR ρ s = true
  · rw [if_pos h] at b
    exact ⟨h.1, h.2, cdec_in h.1 h.2, b⟩
  · rw [if_neg h] at b
    exact absurd rfl b
/-- ranges -/
def DOK (ρ : Int32) (dec wi : Nat → Int32) : Prop := (∀ s side, s < 128 → inR ρ s = true → ¬ dec s = 0 → side < 2 → refN (dec s) side ≤ 16) ∧ ∀ x, x < 128 → inR ρ x = true → SL2 (wi x)
theorem rsl_lt {ρ : Int32} {dec wi : Nat → Int32} (h : DOK ρ dec wi) {x : Nat} (hx : rsl ρ (cdec ρ dec) x) : x < 128 ∧ inR ρ x = true := by
  obtain ⟨s, side, hs, hm, hsd, h0, e⟩ := hx
  obtain ⟨m1, m2, m3, m4⟩ := cdec_mem hm
  have h16 := h.1 s side m1 m2 m4 hsd
  rw [m3] at h0 e
  have e2 : x / 16 = s / 16 := by omega
  refine ⟨by omega, ?_⟩
  unfold inR at *
  rw [e2]; exact m2
theorem nEV_T {ρ : Int32} {dec wi : Nat → Int32} {an : Nat → Int64} {s side : Nat} (hs : s < 128) (hm : (nEV ρ dec wi an).mem s = true) (hsd : side < 2) : (refN (dec s) side = 0 ∧ (nEV ρ dec wi an).T s side = -3) ∨ (¬ refN (dec s) side = 0 ∧ rsl ρ (cdec ρ dec) (s / 16 * 16 + (refN (dec s) side - 1)) ∧ (nEV ρ dec wi an).T s side = wi (s / 16 * 16 + (refN (dec s) side - 1))) := by
  have hm' : memB ρ (cdec ρ dec) s = true := hm
  obtain ⟨m1, m2, m3, m4⟩ := cdec_mem hm'
  show _ ∨ (_ ∧ _ ∧ tgt (cdec ρ dec) (fun x => ifP (rsl ρ (cdec ρ dec) x) (wi x) 0) s side = _)
  have e : (nEV ρ dec wi an).T s side = tgt (cdec ρ dec) (fun x => ifP (rsl ρ (cdec ρ dec) x) (wi x) 0) s side := rfl
  rw [e]
  unfold tgt
  rw [m3]
  by_cases h0 : refN (dec s) side = 0
  · rw [if_pos h0]; exact Or.inl ⟨h0, rfl⟩
  · have hr : rsl ρ (cdec ρ dec) (s / 16 * 16 + (refN (dec s) side - 1)) := ⟨s, side, hs, hm', hsd, by rw [m3]; exact h0, by rw [m3]⟩
    rw [if_neg h0]
    exact Or.inr ⟨h0, hr, ifP_t hr⟩
theorem nEV_ok {ρ : Int32} {dec wi : Nat → Int32} {an : Nat → Int64} (h : DOK ρ dec wi) : EOK (nEV ρ dec wi an) := by
  refine ⟨fun s side hs hm hsd => ?_, fun s side hs hm hsd => ?_⟩
  · obtain ⟨m1, m2, m3, m4⟩ := cdec_mem (show memB ρ (cdec ρ dec) s = true from hm)
    show refN (cdec ρ dec s) side ≤ 16
    rw [m3]
    exact h.1 s side m1 m2 m4 hsd
  · rcases nEV_T hs hm hsd with ⟨_, e⟩ | ⟨_, hr, e⟩
    · rw [e]; exact Or.inl rfl
    · rw [e]
      obtain ⟨x1, x2⟩ := rsl_lt h hr
      rcases h.2 _ x1 x2 with q | q | q
      · exact Or.inr (Or.inl q)
      · exact Or.inr (Or.inr (Or.inl q))
      · exact Or.inr (Or.inr (Or.inr q))
theorem nEV_tg {ρ : Int32} {dec wi : Nat → Int32} {an : Nat → Int64} {s side j : Nat} (hs : s < 128) (hm : (nEV ρ dec wi an).mem s = true) (hsd : side < 2) (hj : j < 128) (hT : (nEV ρ dec wi an).T s side = nI j) (hr : inR ρ j = false) : tgj ρ (cdec ρ dec) wi j := by
  rcases nEV_T hs hm hsd with ⟨_, e⟩ | ⟨_, hx, e⟩
  · rw [e] at hT
    exact absurd hT.symm (fun q => by
      have := congrArg Int32.toInt q
      rw [nI_toInt (by omega)] at this
      have h2 : ((-3 : Int32)).toInt = -3 := by decide
      omega)
  · exact ⟨hj, hr, _, hx, by rw [← e]; exact hT⟩
theorem nEV_pl {ρ : Int32} {dec wi : Nat → Int32} {an : Nat → Int64} : EPL (nEV ρ dec wi an) := by
  intro s side j hs hm hsd hj hT hr h1 h2
  have ht := nEV_tg hs hm hsd hj hT hr
  have e1 : (nEV ρ dec wi an).XR j = if ab (an j) 8 = true then 0 else 1 := ifP_t ht
  have e2 : (nEV ρ dec wi an).XF j = if ab (an j) 9 = true then 1 else 0 := ifP_t ht
  have e3 : (nEV ρ dec wi an).XL j = if ab (an j) 10 = true ∨ (ab (an j) 8 = true ∧ ab (an j) 9 = false) then 1 else 0 := ifP_t ht
  rw [e1] at h1
  rw [e2] at h2
  rw [e3]
  by_cases b8 : ab (an j) 8 = true
  · by_cases b9 : ab (an j) 9 = true
    · rw [if_pos b9] at h2; exact absurd h2 (by decide)
    · rw [if_pos (Or.inr ⟨b8, by simpa using b9⟩)]; decide
  · rw [if_neg b8] at h1; exact absurd h1 (by decide)
/-- the states that are made -/
noncomputable def mkD (e : EV) : Nat → Nat → Int32 := @dite _ (EOK e ∧ EPL e) (Classical.propDecidable _) (fun h => Classical.choose (s_make h.1 h.2)) (fun _ => dfD)
theorem mkD_s {e : EV} (hV : EOK e) (hP : EPL e) : RF e (mkD e) ∧ ∀ (σ0 : Sg) (w r : Nat), w < 2 → r < 30 → ER0 e σ0 w r → OWN dfD σ0 r → (∀ i, i < 128 → σ0.2.1 1 r i = ansOf dfD i) → ok (fun σ' => MP w r σ0 σ' ∧ OWN (mkD e) σ' r ∧ ∀ i, i < 128 → σ'.2.1 1 r i = ansOf (mkD e) i) (m_X3_makeStates σ0 w r) := by
  unfold mkD
  rw [dif_pos ⟨hV, hP⟩]
  exact Classical.choose_spec (s_make hV hP)
/-- what is so of a result's states -/
def SFA (D : Nat → Nat → Int32) (i : Nat) : Prop := (D 32 i = 0 ∨ D 32 i = 1) ∧ (¬ D 31 i = 0 → D 33 i = 0 ∧ D 34 i = 0 ∧ D 35 i = -1 ∧ D 36 i = -1) ∧ (D 33 i = 0 ∨ D 33 i = 1) ∧ (¬ D 33 i = 0 → D 31 i = 0 ∧ D 35 i = -1 ∧ D 36 i = -1) ∧ (D 32 i = 0 → D 31 i = 0 → D 33 i = 1) ∧ SL1 (D 35 i) ∧ SL1 (D 36 i) ∧ FV (D 31 i)
theorem SFA_df (i : Nat) : SFA dfD i := by
  have a : dfD 31 i = 1 := rfl
  have b : dfD 32 i = 0 := rfl
  have c : dfD 33 i = 0 := rfl
  have d : dfD 34 i = 0 := rfl
  have f : dfD 35 i = -1 := rfl
  have g : dfD 36 i = -1 := rfl
  refine ⟨Or.inl b, fun _ => ⟨c, d, f, g⟩, Or.inl c, fun h => absurd c h, fun _ h => ?_, Or.inl f, Or.inl g, Or.inr (Or.inl a)⟩
  rw [a] at h; exact absurd h (by decide)
theorem RF.sfa {e : EV} {D : Nat → Nat → Int32} (h : RF e D) {i : Nat} (hi : i < 128) : SFA D i := by
  obtain ⟨h1, h2, h3, h4, h5, h6, h7, h8, h9⟩ := h i hi
  refine ⟨?_, h3, h4, h5, h6, h7, h8, h9⟩
  by_cases hm : e.mem i = true
  · rw [h2 hm]
    split
    · exact Or.inr rfl
    · exact Or.inl rfl
  · rw [h1 (by simpa using hm) 32 (by omega) (by omega)]; exact Or.inl rfl
