/-! ROUNDS, as values -/
section ROUND
variable {C : CX} {q : Nat → Int32} {c : Nat} {RE : Nat → Nat → Prop}
noncomputable def ro (C : CX) (q : Nat → Int32) (el : Nat → Prop) : Nat → Nat → Nat → AV → AV × Nat
  | 0, _, _, V => (V, 0)
  | d + 1, p, n, V => if n = 0 then (V, 0) else ifP (el p) ((ro C q el d (p + 1) (n - 1) (renA C V (q p))).1, (ro C q el d (p + 1) (n - 1) (renA C V (q p))).2 + 1) (ro C q el d (p + 1) n V)
theorem ro_c (hC : COK C) {el el' : Nat → Prop} (he : ∀ p, p < c → (el p ↔ el' p)) : ∀ d p n (V V' : AV), p + d = c → VE V V' → VE (ro C q el d p n V).1 (ro C q el' d p n V').1 ∧ (ro C q el d p n V).2 = (ro C q el' d p n V').2
  | 0, _, _, _, _, _, h => ⟨h, rfl⟩
  | d + 1, p, n, V, V', hp, h => by
    rw [ro, ro]
    by_cases hn : n = 0
    · rw [if_pos hn, if_pos hn]; exact ⟨h, rfl⟩
    · rw [if_neg hn, if_neg hn]
      by_cases hh : el p
      · rw [ifP_t hh, ifP_t ((he p (by omega)).mp hh)]
        obtain ⟨a, b⟩ := ro_c hC he d (p + 1) (n - 1) _ _ (by omega) (renA_c (q p) hC h)
        exact ⟨a, by rw [b]⟩
      · rw [ifP_f hh, ifP_f (fun z => hh ((he p (by omega)).mpr z))]
        exact ro_c hC he d (p + 1) n V V' (by omega) h
theorem ro_due (hT : TOP C q c RE) {el : Nat → Prop} (hne : ∀ p p' m, p < c → p' < c → el p → el p' → RE p m → ¬ bt (q p') m = true) : ∀ d p n (V : AV), p + d = c → VI C q c V → (∀ k, p ≤ k → k < c → el k → STL C q c RE V k) → VI C q c (ro C q el d p n V).1 ∧ (pa C q c 0 V).2 = (ro C q el d p n V).2 + (pa C q c 0 (ro C q el d p n V).1).2 ∧ (ro C q el d p n V).2 ≤ n ∧ ((ro C q el d p n V).2 = 0 → n = 0 ∨ ∀ k, p ≤ k → k < c → ¬ el k)
  | 0, p, n, V, h1, hV, _ => ⟨hV, (Nat.zero_add _).symm, Nat.zero_le _, fun _ => Or.inr (fun k a b => absurd a (by omega))⟩
  | d + 1, p, n, V, h1, hV, hS => by
    rw [ro]
    by_cases hn : n = 0
    · rw [if_pos hn]
      exact ⟨hV, (Nat.zero_add _).symm, Nat.zero_le _, fun _ => Or.inl hn⟩
    · rw [if_neg hn]
      by_cases hh : el p
      · rw [ifP_t hh]
        have hSp := hS p (Nat.le_refl _) (by omega) hh
        obtain ⟨a, b, e, f⟩ := ro_due hT hne d (p + 1) (n - 1) (renA C V (q p)) (by omega) (VI_ren hT hV (by omega)) (fun k k1 k2 k3 => stl_ren hT hV k2 (by omega) (by omega) (hS k (by omega) k2 k3) (fun m hm => hne k p m k2 (by omega) k3 hh hm))
        refine ⟨a, ?_, ?_, fun z => absurd z (Nat.succ_ne_zero _)⟩
        · rw [due_ren hT (show p < c by omega) c 0 V (by omega) (by omega) hV hSp, b]
          show _ = (ro C q el d (p + 1) (n - 1) (renA C V (q p))).2 + 1 + (pa C q c 0 (ro C q el d (p + 1) (n - 1) (renA C V (q p))).1).2
          omega
        · show (ro C q el d (p + 1) (n - 1) (renA C V (q p))).2 + 1 ≤ n
          omega
      · rw [ifP_f hh]
        obtain ⟨a, b, e, f⟩ := ro_due hT hne d (p + 1) n V (by omega) hV (fun k k1 k2 k3 => hS k (by omega) k2 k3)
        refine ⟨a, b, e, fun z => ?_⟩
        rcases f z with y | y
        · exact Or.inl y
        · right
          intro k k1 k2 k3
          by_cases e2 : k = p
          · rw [e2] at k3; exact hh k3
          · exact y k (by omega) k2 k3
noncomputable def roundA (C : CX) (q : Nat → Int32) (c : Nat) (RE : Nat → Nat → Prop) (n : Nat) (V : AV) : AV × Nat := ro C q (STL C q c RE V) c 0 n V
theorem stl_c (hT : TOP C q c RE) {V V' : AV} (h : VE V V') {p : Nat} (hp : p < c) : STL C q c RE V p ↔ STL C q c RE V' p := by
  have hf : ∀ k, k < c → (frA C V (q k) ↔ frA C V' (q k)) := fun k hk => frA_c hT.1 (sm8_s (hT.2.1 k hk)).1 h
  unfold STL
  constructor
  · exact fun ⟨a, b⟩ => ⟨fun z => a ((hf p hp).mpr z), fun p' m h1 h2 h3 => (hf p' h1).mp (b p' m h1 h2 h3)⟩
  · exact fun ⟨a, b⟩ => ⟨fun z => a ((hf p hp).mp z), fun p' m h1 h2 h3 => (hf p' h1).mpr (b p' m h1 h2 h3)⟩
theorem round_c (hT : TOP C q c RE) {n : Nat} {V V' : AV} (h : VE V V') : VE (roundA C q c RE n V).1 (roundA C q c RE n V').1 ∧ (roundA C q c RE n V).2 = (roundA C q c RE n V').2 := ro_c hT.1 (fun p hp => stl_c hT h hp) c 0 n V V' (by omega) h
theorem round_due (hT : TOP C q c RE) {n : Nat} {V : AV} (hV : VI C q c V) : VI C q c (roundA C q c RE n V).1 ∧ (pa C q c 0 V).2 = (roundA C q c RE n V).2 + (pa C q c 0 (roundA C q c RE n V).1).2 ∧ (roundA C q c RE n V).2 ≤ n ∧ ((roundA C q c RE n V).2 = 0 → n = 0 ∨ (pa C q c 0 V).2 = 0) := by
  obtain ⟨a, b, e, f⟩ := ro_due hT (el := STL C q c RE V) (fun p p' m hp hp' h1 h2 h3 h4 => h2.1 (h1.2 p' m hp' h3 h4)) c 0 n V (by omega) hV (fun k _ _ hk => hk)
  refine ⟨a, b, e, fun z => ?_⟩
  rcases f z with y | y
  · exact Or.inl y
  · right
    have key : ∀ n p, p < n → p < c → frA C V (q p) := by
      intro n
      induction n with
      | zero => intro p h; omega
      | succ n ih =>
        intro p h1 h2
        refine Classical.byContradiction (fun hf => y p (by omega) h2 ⟨hf, fun p' m h3 h4 h5 => ?_⟩)
        refine Classical.byContradiction (fun hf' => ?_)
        obtain ⟨h8, p'', k1, k2⟩ := hT.2.2.2.2.1 p h2 m h4
        have e := hT.2.2.1 p' p'' m h3 (by omega) h8 h5 k2
        exact hf' (ih p' (by omega) h3)
    exact (pa_zero c 0 V).mpr (fun p _ hp => key (p + 1) p (by omega) (by omega))
noncomputable def roA (C : CX) (q : Nat → Int32) (c : Nat) (RE : Nat → Nat → Prop) (n : Nat) : Nat → AV → Nat
  | 0, _ => 0
  | f + 1, V => if (roundA C q c RE n V).2 = 0 then 0 else roA C q c RE n f (roundA C q c RE n V).1 + 1
theorem roA_c (hT : TOP C q c RE) {n : Nat} : ∀ f (V V' : AV), VE V V' → roA C q c RE n f V = roA C q c RE n f V'
  | 0, _, _, _ => rfl
  | f + 1, V, V', h => by
    obtain ⟨a, b⟩ := round_c hT (n := n) h
    rw [roA, roA, b, roA_c hT f _ _ a]
theorem roA_le (hT : TOP C q c RE) {n : Nat} : ∀ f (V : AV), VI C q c V → roA C q c RE n f V ≤ (pa C q c 0 V).2 ∧ roA C q c RE n f V ≤ f
  | 0, _, _ => ⟨Nat.zero_le _, Nat.le_refl _⟩
  | f + 1, V, hV => by
    obtain ⟨a, b, e, g⟩ := round_due hT (n := n) hV
    rw [roA]
    by_cases h : (roundA C q c RE n V).2 = 0
    · rw [if_pos h]; exact ⟨Nat.zero_le _, Nat.zero_le _⟩
    · rw [if_neg h]
      obtain ⟨x, y⟩ := roA_le hT (n := n) f _ a
      omega
theorem roA_one (hT : TOP C q c RE) : ∀ f (V : AV), VI C q c V → (pa C q c 0 V).2 ≤ f → roA C q c RE 1 f V = (pa C q c 0 V).2
  | 0, V, _, h => by
    show 0 = _
    omega
  | f + 1, V, hV, h => by
    obtain ⟨a, b, e, g⟩ := round_due hT (n := 1) hV
    rw [roA]
    by_cases h0 : (roundA C q c RE 1 V).2 = 0
    · rw [if_pos h0]
      rcases g h0 with z | z
      · exact absurd z (by decide)
      · exact z.symm
    · rw [if_neg h0, roA_one hT f _ a (by omega)]
      omega
end ROUND
