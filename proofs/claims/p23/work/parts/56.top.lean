/-! THE ORDER of a state's rings is one as passes want it -/
def REW (σ : Sg) (p m : Nat) : Prop := m < 8 ∧ bt (σ.1 14 0 (sm8 (σ.1 17 0 p))) m = true ∧ ¬ bt (σ.1 17 0 p) m = true
def RGC (σ : Sg) (mc c : Nat) (rep : Nat → Nat) : Prop := ∀ p, p < c → rep p < mc ∧ σ.1 17 0 p = σ.1 15 0 (rep p) ∧ (∀ q, q < p → bt (σ.1 17 0 q) (rep p) = false) ∧ ∀ f, f < 32 → bt (σ.1 14 0 (rep p)) f = true → bt (σ.1 15 0 (rep p)) f = true ∨ ∃ q, q < p ∧ bt (σ.1 17 0 q) f = true
section TOPS
variable {σ : Sg} {mc c : Nat} {rep : Nat → Nat}
theorem rg_in (h15 : ∀ m f, m < mc → f < 32 → bt (σ.1 15 0 m) f = rgB σ mc m f) (hC : RGC σ mc c rep) {p f : Nat} (hp : p < c) (hf : f < 32) : bt (σ.1 17 0 p) f = true ↔ f = rep p ∨ (f < mc ∧ bt (σ.1 14 0 (rep p)) f = true ∧ bt (σ.1 14 0 f) (rep p) = true) := by
  obtain ⟨h1, h2, _⟩ := hC p hp
  rw [h2, h15 _ f h1 hf]
  unfold rgB
  simp only [Bool.or_eq_true, Bool.and_eq_true, decide_eq_true_eq]
/-- two modules of a ring reach each other -/
theorem rg_two (hmc : mc ≤ 8) (hT : RT σ mc) (h15 : ∀ m f, m < mc → f < 32 → bt (σ.1 15 0 m) f = rgB σ mc m f) (hC : RGC σ mc c rep) {p a b : Nat} (hp : p < c) (ha : a < 32) (hb : b < 32) (h1 : bt (σ.1 17 0 p) a = true) (h2 : bt (σ.1 17 0 p) b = true) : a < mc ∧ b < mc ∧ (a = b ∨ bt (σ.1 14 0 a) b = true) := by
  have hr := (hC p hp).1
  rcases (rg_in h15 hC hp ha).mp h1 with x | ⟨x1, x2, x3⟩ <;> rcases (rg_in h15 hC hp hb).mp h2 with y | ⟨y1, y2, y3⟩
  · exact ⟨by omega, by omega, Or.inl (by omega)⟩
  · exact ⟨by omega, y1, Or.inr (by rw [x]; exact y2)⟩
  · exact ⟨x1, by omega, Or.inr (by rw [y]; exact x3)⟩
  · exact ⟨x1, y1, Or.inr (hT.2.2 a (rep p) b x1 hr y1 x3 y2)⟩
theorem rg_dis (hmc : mc ≤ 8) (hT : RT σ mc) (h15 : ∀ m f, m < mc → f < 32 → bt (σ.1 15 0 m) f = rgB σ mc m f) (hC : RGC σ mc c rep) {p p' m : Nat} (hp : p < p') (hp' : p' < c) (hm : m < 32) (h1 : bt (σ.1 17 0 p) m = true) (h2 : bt (σ.1 17 0 p') m = true) : False := by
  have hr' := (hC p' hp').1
  have hr := (hC p (by omega)).1
  have hno := (hC p' hp').2.2.1 p hp
  have hin : bt (σ.1 17 0 p) (rep p') = true := by
    rw [rg_in h15 hC (by omega) (by omega)]
    have s1 : bt (σ.1 17 0 p') (rep p') = true := (rg_in h15 hC hp' (by omega)).mpr (Or.inl rfl)
    have s2 : bt (σ.1 17 0 p) (rep p) = true := (rg_in h15 hC (by omega) (by omega)).mpr (Or.inl rfl)
    obtain ⟨a1, a2, a3⟩ := rg_two hmc hT h15 hC (show p < c by omega) (by omega) hm s2 h1
    obtain ⟨_, _, a4⟩ := rg_two hmc hT h15 hC (show p < c by omega) hm (by omega) h1 s2
    obtain ⟨b1, b2, b3⟩ := rg_two hmc hT h15 hC hp' (by omega) hm s1 h2
    obtain ⟨_, _, b4⟩ := rg_two hmc hT h15 hC hp' hm (by omega) h2 s1
    have go : ∀ x y z, x < mc → y < mc → z < mc → (x = y ∨ bt (σ.1 14 0 x) y = true) → (y = z ∨ bt (σ.1 14 0 y) z = true) → (x = z ∨ bt (σ.1 14 0 x) z = true) := by
      intro x y z hx hy hz u v
      rcases u with u | u
      · rw [u]; exact v
      · rcases v with v | v
        · rw [← v]; exact Or.inr u
        · exact Or.inr (hT.2.2 x y z hx hy hz u v)
    have c1 := go (rep p) m (rep p') hr a2 hr' a3 b4
    have c2 := go (rep p') m (rep p) hr' a2 hr b3 a4
    rcases c1 with z | z
    · exact Or.inl z.symm
    · rcases c2 with y | y
      · exact Or.inl y
      · exact Or.inr ⟨hr', z, y⟩
  rw [hno] at hin
  cases hin
theorem RC.reach (hT : RT σ mc) {a b : Nat} (h : RC σ mc a b) : a < mc ∧ b < mc ∧ bt (σ.1 14 0 a) b = true :=
  h (fun a b => a < mc ∧ b < mc ∧ bt (σ.1 14 0 a) b = true) (fun x y z ⟨h1, h2, h3⟩ ⟨_, h5, h6⟩ => ⟨h1, h5, hT.2.2 x y z h1 h2 h5 h3 h6⟩) (fun x y h => ⟨h.1, h.2.1, hT.2.1 x y h⟩)
/-- what a module wants is in a module that it imports from -/
theorem want_imp (hW : WFN σ mc) {m sl : Nat} (hm : m < mc) (hsl : sl < 128) (h : wtB σ m sl = true) : ∃ k, k < cnt σ 0 m ∧ impFrom (imp σ 0 m k) = sl / 16 := by
  have hmc := hW.2.1
  obtain ⟨s, hs, _, side, _, _, hn16, _, hq⟩ := (wtB_t hW hm hsl).mp h
  rw [hs] at hq
  generalize refN (σ.1 26 0 s) side - 1 = nm at hn16 hq
  rcases hq with hq | ⟨_, _, hq⟩
  · rw [hW.2.2.1.1 m nm hm hn16] at hq
    rcases srcG_of (isN nm) (imp σ 0 m) (cnt σ 0 m) (cnt σ 0 m) (Nat.le_refl _) with e | ⟨k, hk, hp, e⟩
    · rw [e] at hq; exact absurd hq.symm (nI_ne_m1 (by omega))
    · rw [e] at hq
      have h16 := hW.1.2.1 m k (by omega) hk
      have hlt := srcOf_lt h16
      have e2 : srcOf (imp σ 0 m k) = sl := (nI_eq (by omega) (by omega)).mp hq
      unfold isN at hp
      simp only [Bool.and_eq_true, decide_eq_true_eq] at hp
      refine ⟨k, hk, ?_⟩
      unfold srcOf at e2
      omega
  · rw [hW.2.2.1.2.2.1 m (sl / 16) hm (by omega)] at hq
    obtain ⟨k, hk, _, e⟩ := allG_of isA (imp σ 0 m) (cnt σ 0 m) (sl / 16) (cnt σ 0 m) (Nat.le_refl _) hq
    exact ⟨k, hk, e.symm⟩
theorem top_of (hW : WFN σ mc) (hT : RT σ mc) (h15 : ∀ m f, m < mc → f < 32 → bt (σ.1 15 0 m) f = rgB σ mc m f) (hC : RGC σ mc c rep) : TOP (CXW σ 0) (fun p => σ.1 17 0 p) c (REW σ) := by
  have hmc := hW.2.1
  have hne : ∀ p, p < c → NE8 (σ.1 17 0 p) := fun p hp => ⟨rep p, by have := (hC p hp).1; omega, (rg_in h15 hC hp (by have := (hC p hp).1; omega)).mpr (Or.inl rfl)⟩
  have hdis : ∀ p p' m, p < c → p' < c → m < 8 → bt (σ.1 17 0 p) m = true → bt (σ.1 17 0 p') m = true → p = p' := fun p p' m hp hp' hm h1 h2 => by
    rcases Nat.lt_trichotomy p p' with h | h | h
    · exact (rg_dis hmc hT h15 hC h hp' (by omega) h1 h2).elim
    · exact h
    · exact (rg_dis hmc hT h15 hC h hp (by omega) h2 h1).elim
  have hr2 : ∀ p, p < c → ∀ m, REW σ p m → m < 8 ∧ ∃ p', p' < p ∧ bt (σ.1 17 0 p') m = true := by
    intro p hp m ⟨h8, h1, h2⟩
    obtain ⟨s8, sb⟩ := sm8_s (hne p hp)
    have hr := (hC p hp).1
    have sr : bt (σ.1 17 0 p) (rep p) = true := (rg_in h15 hC hp (by omega)).mpr (Or.inl rfl)
    obtain ⟨a1, a2, a3⟩ := rg_two hmc hT h15 hC hp (show rep p < 32 by omega) (show sm8 (σ.1 17 0 p) < 32 by omega) sr sb
    have hmm : m < mc := hT.1 _ m a2 (by omega) h1
    have hrm : bt (σ.1 14 0 (rep p)) m = true := by
      rcases a3 with e | e
      · rw [e]; exact h1
      · exact hT.2.2 _ _ _ a1 a2 hmm e h1
    rcases (hC p hp).2.2.2 m (by omega) hrm with e | e
    · rw [← (hC p hp).2.1] at e; exact absurd e h2
    · exact ⟨h8, e⟩
  refine ⟨CXW_ok hW.osl, hne, hdis, ?_, hr2, ?_, ?_, ?_⟩
  · intro p hp s hs hw j hj ho hb
    obtain ⟨m, m8, mb, mw⟩ := (wtR_t (σ := σ) 8).mp hw
    obtain ⟨s8, sb⟩ := sm8_s (hne p hp)
    obtain ⟨a1, a2, a3⟩ := rg_two hmc hT h15 hC hp (show sm8 (σ.1 17 0 p) < 32 by omega) (show m < 32 by omega) sb mb
    obtain ⟨k, hk, hf⟩ := want_imp hW a2 hs mw
    have ho' : σ.1 6 0 s = nI j := ho
    obtain ⟨hOV, hbig⟩ := hW.2.2.2.1 s hs
    have hsm : s / 16 < mc := by
      rcases Nat.lt_or_ge (s / 16) mc with z | z
      · exact z
      · have := hbig (by omega)
        rw [ho'] at this
        exact absurd this (nI_ne_m1 (by omega))
    have hms : bt (σ.1 14 0 m) (s / 16) = true := hT.2.1 m (s / 16) ⟨a2, hsm, k, hk, hf⟩
    have hmj : j / 16 < mc ∧ bt (σ.1 14 0 m) (j / 16) = true := by
      rcases hOV with e | e | ⟨j', hj', e, e2⟩
      · rw [ho'] at e; exact absurd e (nI_ne_m1 (by omega))
      · rw [ho'] at e; exact absurd e (nI_ne_m2 (by omega))
      · rw [ho'] at e
        have ej : j = j' := (nI_eq (by omega) (by omega)).mp e
        subst ej
        rcases e2 with e2 | e2
        · rw [e2]; exact ⟨hsm, hms⟩
        · obtain ⟨b1, b2, b3⟩ := e2.reach hT
          exact ⟨b2, hT.2.2 m (s / 16) (j / 16) a2 b1 b2 hms b3⟩
    refine ⟨by omega, ?_, by rw [hb]; decide⟩
    rcases a3 with e | e
    · rw [e]; exact hmj.2
    · exact hT.2.2 _ _ _ a1 a2 hmj.1 e hmj.2
  · intro p p' m m' hp hp' h1 h2 h3
    obtain ⟨x8, p2, x1, x2⟩ := hr2 p hp m h1
    obtain ⟨y8, p3, y1, y2⟩ := hr2 p' hp' m' h3
    have e : p2 = p' := hdis p2 p' m (by omega) hp' x8 x2 h2
    obtain ⟨s8, sb⟩ := sm8_s (hne p' hp')
    obtain ⟨t8, tb⟩ := sm8_s (hne p hp)
    obtain ⟨a1, a2, a3⟩ := rg_two hmc hT h15 hC hp' (show m < 32 by omega) (show sm8 (σ.1 17 0 p') < 32 by omega) h2 sb
    have ht : sm8 (σ.1 17 0 p) < mc := (rg_two hmc hT h15 hC hp (show sm8 (σ.1 17 0 p) < 32 by omega) (show sm8 (σ.1 17 0 p) < 32 by omega) tb tb).1
    have hm' : m' < mc := hT.1 _ m' a2 (by omega) h3.2.1
    have hmm : bt (σ.1 14 0 m) m' = true := by
      rcases a3 with z | z
      · rw [z]; exact h3.2.1
      · exact hT.2.2 _ _ _ a1 a2 hm' z h3.2.1
    refine ⟨y8, hT.2.2 _ _ _ ht a1 hm' h1.2.1 hmm, fun z => ?_⟩
    have := hdis p3 p m' (by omega) hp y8 y2 z
    omega
  · intro p hp a b ha hb h i
    show ansOf (mkD (nEV (σ.1 17 0 p) (σ.1 26 0) (σ.1 7 0) a)) i = ansOf (mkD (nEV (σ.1 17 0 p) (σ.1 26 0) (σ.1 7 0) b)) i
    rw [nEV_same hW hW (fun m hm hb => ⟨(rg_two hmc hT h15 hC hp (show m < 32 by omega) (show m < 32 by omega) hb hb).1, (rg_two hmc hT h15 hC hp (show m < 32 by omega) (show m < 32 by omega) hb hb).1, rfl, fun _ _ => rfl, fun _ _ => rfl⟩) ha hb h]
  · intro ring a j hj
    exact ansOf_AJ _ hj
end TOPS
