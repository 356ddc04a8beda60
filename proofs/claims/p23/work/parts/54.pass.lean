/-! PASSES over rings in their order, as values -/
def TOP (C : CX) (q : Nat → Int32) (c : Nat) (RE : Nat → Nat → Prop) : Prop :=
  COK C ∧ (∀ p, p < c → NE8 (q p)) ∧ (∀ p p' m, p < c → p' < c → m < 8 → bt (q p) m = true → bt (q p') m = true → p = p') ∧
  (∀ p, p < c → ∀ s, s < 128 → C.wt (q p) s = true → ∀ j, j < 128 → C.o s = nI j → bt (q p) (j / 16) = false → RE p (j / 16)) ∧
  (∀ p, p < c → ∀ m, RE p m → m < 8 ∧ ∃ p', p' < p ∧ bt (q p') m = true) ∧
  (∀ p p' m m', p < c → p' < c → RE p m → bt (q p') m = true → RE p' m' → RE p m') ∧
  (∀ p, p < c → ∀ a b, AJ a → AJ b → (∀ s, s < 128 → C.wt (q p) s = true → aToA C.o a (q p) s = aToA C.o b (q p) s) → ∀ i, C.G (q p) a i = C.G (q p) b i) ∧
  ∀ ring a j, j < 128 → AJ1 j (C.G ring a j)
def VI (C : CX) (q : Nat → Int32) (c : Nat) (V : AV) : Prop := AJ V.an ∧ ∀ p, p < c → ∀ m, m < 8 → bt (q p) m = true → V.mo m = q p → V.ts m → ∀ s, s < 128 → V.no m s = -3 ∨ C.wt (q p) s = true
theorem sm8_s {x : Int32} (h : NE8 x) : sm8 x < 8 ∧ bt x (sm8 x) = true := (q_stand (fun _ _ _ => 0, fun _ _ _ => 0, fun _ _ _ => none) h).2
section PASS
variable {C : CX} {q : Nat → Int32} {c : Nat} {RE : Nat → Nat → Prop}
theorem loc_aTo (hT : TOP C q c RE) {V V' : AV} {p : Nat} (hp : p < c) (hd : ∀ j, j < 128 → RE p (j / 16) → V.an j = V'.an j) {s : Nat} (hs : s < 128) (hw : C.wt (q p) s = true) : aToA C.o V.an (q p) s = aToA C.o V'.an (q p) s :=
  aToA_c (hT.1.1 s hs) (fun j hj e hb => hd j hj (hT.2.2.2.1 p hp s hs hw j hj e hb))
theorem loc_fr (hT : TOP C q c RE) {V V' : AV} (hV : VI C q c V) (hV' : VI C q c V') {p : Nat} (hp : p < c) (hm : ∀ m, m < 8 → bt (q p) m = true → V.mo m = V'.mo m ∧ (V.ts m ↔ V'.ts m) ∧ ∀ s, s < 128 → V.no m s = V'.no m s) (hd : ∀ j, j < 128 → RE p (j / 16) → V.an j = V'.an j) : frA C V (q p) ↔ frA C V' (q p) := by
  have go : ∀ {V V' : AV}, VI C q c V' → (∀ m, m < 8 → bt (q p) m = true → V.mo m = V'.mo m ∧ (V.ts m ↔ V'.ts m) ∧ ∀ s, s < 128 → V.no m s = V'.no m s) → (∀ j, j < 128 → RE p (j / 16) → V.an j = V'.an j) → frA C V (q p) → frA C V' (q p) := by
    intro V V' hV' hm hd hf
    obtain ⟨h8, hb⟩ := sm8_s (hT.2.1 p hp)
    obtain ⟨e1, e2, e3⟩ := hm _ h8 hb
    have eR : V'.mo (sm8 (q p)) = q p := by rw [← e1]; exact hf.2.1 _ h8 hb
    refine ⟨fun m hm8 hb => by rw [← (hm m hm8 hb).1]; exact hf.1 m hm8 hb, fun m hm8 hb => by rw [← (hm m hm8 hb).1]; exact hf.2.1 m hm8 hb, e2.mp hf.2.2.1, fun s hs => ?_⟩
    rcases hV'.2 p hp _ h8 hb eR (e2.mp hf.2.2.1) s hs with z | z
    · exact Or.inl z
    · rw [eR, ← loc_aTo hT hp hd hs z, ← e3 s hs]
      rcases hf.2.2.2 s hs with y | y
      · exact Or.inl y
      · right; rw [y, e1, eR]
  exact ⟨go hV' hm hd, go hV (fun m h1 h2 => ⟨(hm m h1 h2).1.symm, (hm m h1 h2).2.1.symm, fun s hs => ((hm m h1 h2).2.2 s hs).symm⟩) (fun j hj hr => (hd j hj hr).symm)⟩
theorem ren_mo (V : AV) (r : Int32) (m : Nat) : (renA C V r).mo m = if bt r m = true then r else V.mo m := rfl
theorem ren_ts (V : AV) (r : Int32) (m : Nat) : (renA C V r).ts m = if bt r m = true then True else V.ts m := rfl
theorem ren_no (V : AV) (r : Int32) (m s : Nat) : (renA C V r).no m s = if bt r m = true then (if C.wt r s = true then aToA C.o V.an r s else -3) else V.no m s := rfl
theorem ren_an (V : AV) (r : Int32) (j : Nat) : (renA C V r).an j = if bt r (j / 16) = true then C.G r V.an j else V.an j := rfl
theorem VI_ren (hT : TOP C q c RE) {V : AV} (hV : VI C q c V) {p : Nat} (hp : p < c) : VI C q c (renA C V (q p)) := by
  refine ⟨fun j hj => ?_, fun p2 hp2 m hm hb h1 h2 s hs => ?_⟩
  · rw [ren_an]
    split
    · exact hT.2.2.2.2.2.2.2 _ _ j hj
    · exact hV.1 j hj
  · rw [ren_no]
    by_cases hb2 : bt (q p) m = true
    · have e : p2 = p := hT.2.2.1 p2 p m hp2 hp hm hb hb2
      rw [if_pos hb2, e]
      by_cases hw : C.wt (q p) s = true
      · exact Or.inr hw
      · rw [if_neg hw]; exact Or.inl rfl
    · rw [if_neg hb2]
      rw [ren_mo, if_neg hb2] at h1
      rw [ren_ts, if_neg hb2] at h2
      exact hV.2 p2 hp2 m hm hb h1 h2 s hs
theorem fr_after (hT : TOP C q c RE) {V : AV} {p : Nat} (hp : p < c) : frA C (renA C V (q p)) (q p) := by
  obtain ⟨h8, hb⟩ := sm8_s (hT.2.1 p hp)
  refine ⟨fun m hm hb => ?_, fun m hm hb => ?_, ?_, fun s hs => ?_⟩
  · rw [ren_mo, if_pos hb]
    intro e
    rw [e, b_0] at hb; cases hb
  · rw [ren_mo, if_pos hb]
  · rw [ren_ts, if_pos hb]; trivial
  · rw [ren_no, ren_mo, if_pos hb, if_pos hb]
    by_cases hw : C.wt (q p) s = true
    · rw [if_pos hw]
      right
      exact aToA_c (hT.1.1 s hs) (fun j hj _ hb2 => by rw [ren_an, if_neg (by rw [hb2]; decide)])
    · rw [if_neg hw]; exact Or.inl rfl
theorem fr_other (hT : TOP C q c RE) {V : AV} (hV : VI C q c V) {p p' : Nat} (hp : p < c) (hp' : p' < c) (hne : ¬ p = p') (hr : ∀ m, RE p' m → ¬ bt (q p) m = true) : frA C (renA C V (q p)) (q p') ↔ frA C V (q p') := by
  refine loc_fr hT (VI_ren hT hV hp) hV hp' (fun m hm hb => ?_) (fun j hj h => ?_)
  · have hb2 : ¬ bt (q p) m = true := fun z => hne (hT.2.2.1 p p' m hp hp' hm z hb)
    refine ⟨by rw [ren_mo, if_neg hb2], by rw [ren_ts, if_neg hb2], fun s hs => by rw [ren_no, if_neg hb2]⟩
  · rw [ren_an, if_neg (hr _ h)]
/-- an earlier ring does not reach a later one -/
theorem re_lt (hT : TOP C q c RE) {p k m : Nat} (hp : p < c) (hk : k < p) (h : RE k m) : ¬ bt (q p) m = true := by
  intro hb
  obtain ⟨h8, p', h1, h2⟩ := hT.2.2.2.2.1 k (by omega) m h
  have := hT.2.2.1 p p' m hp (by omega) h8 hb h2
  omega
theorem ren_comm (hT : TOP C q c RE) {V : AV} (hV : VI C q c V) {p k : Nat} (hp : p < c) (hk : k < c) (hne : ¬ p = k) (h1 : ∀ m, RE k m → ¬ bt (q p) m = true) (h2 : ∀ m, RE p m → ¬ bt (q k) m = true) : VE (renA C (renA C V (q p)) (q k)) (renA C (renA C V (q k)) (q p)) := by
  have hdis : ∀ m, m < 8 → bt (q k) m = true → bt (q p) m = true → False := fun m hm a b => hne (hT.2.2.1 p k m hp hk hm b a)
  have dk : ∀ j, j < 128 → RE k (j / 16) → (renA C V (q p)).an j = V.an j := fun j hj h => by rw [ren_an, if_neg (h1 _ h)]
  have dp : ∀ j, j < 128 → RE p (j / 16) → (renA C V (q k)).an j = V.an j := fun j hj h => by rw [ren_an, if_neg (h2 _ h)]
  have gk : ∀ i, C.G (q k) (renA C V (q p)).an i = C.G (q k) V.an i := hT.2.2.2.2.2.2.1 k hk _ _ (VI_ren hT hV hp).1 hV.1 (fun s hs hw => loc_aTo hT hk dk hs hw)
  have gp : ∀ i, C.G (q p) (renA C V (q k)).an i = C.G (q p) V.an i := hT.2.2.2.2.2.2.1 p hp _ _ (VI_ren hT hV hk).1 hV.1 (fun s hs hw => loc_aTo hT hp dp hs hw)
  refine ⟨fun m hm => ⟨?_, ?_, fun s hs => ?_⟩, fun j hj => ?_⟩
  · rw [ren_mo, ren_mo, ren_mo, ren_mo]
    by_cases a : bt (q k) m = true
    · rw [if_pos a, if_neg (fun b => hdis m hm a b), if_pos a]
    · rw [if_neg a, if_neg a]
  · rw [ren_ts, ren_ts, ren_ts, ren_ts]
    by_cases a : bt (q k) m = true
    · rw [if_pos a, if_neg (fun b => hdis m hm a b), if_pos a]
    · rw [if_neg a, if_neg a]
  · rw [ren_no, ren_no, ren_no, ren_no]
    by_cases a : bt (q k) m = true
    · rw [if_pos a, if_neg (fun b => hdis m hm a b), if_pos a]
      by_cases hw : C.wt (q k) s = true
      · rw [if_pos hw, if_pos hw]; exact loc_aTo hT hk dk hs hw
      · rw [if_neg hw, if_neg hw]
    · rw [if_neg a, if_neg a]
      by_cases b : bt (q p) m = true
      · rw [if_pos b, if_pos b]
        by_cases hw : C.wt (q p) s = true
        · rw [if_pos hw, if_pos hw]; exact (loc_aTo hT hp dp hs hw).symm
        · rw [if_neg hw, if_neg hw]
      · rw [if_neg b, if_neg b]
  · rw [ren_an, ren_an, ren_an, ren_an, gk, gp]
    by_cases a : bt (q k) (j / 16) = true
    · rw [if_pos a, if_neg (fun b => hdis _ (by omega) a b), if_pos a]
    · rw [if_neg a, if_neg a]
/-- a pass -/
noncomputable def pa (C : CX) (q : Nat → Int32) : Nat → Nat → AV → AV × Nat
  | 0, _, V => (V, 0)
  | d + 1, p, V => ifP (frA C V (q p)) (pa C q d (p + 1) V) ((pa C q d (p + 1) (renA C V (q p))).1, (pa C q d (p + 1) (renA C V (q p))).2 + 1)
theorem pa_c (hC : COK C) (hN : ∀ p, p < c → NE8 (q p)) : ∀ d p (V V' : AV), p + d = c → VE V V' → VE (pa C q d p V).1 (pa C q d p V').1 ∧ (pa C q d p V).2 = (pa C q d p V').2
  | 0, _, _, _, _, h => ⟨h, rfl⟩
  | d + 1, p, V, V', hp, h => by
    rw [pa, pa]
    have hf := frA_c (ring := q p) hC (sm8_s (hN p (by omega))).1 h
    by_cases hh : frA C V (q p)
    · rw [ifP_t hh, ifP_t (hf.mp hh)]
      exact pa_c hC hN d (p + 1) V V' (by omega) h
    · rw [ifP_f hh, ifP_f (fun z => hh (hf.mpr z))]
      obtain ⟨a, b⟩ := pa_c hC hN d (p + 1) _ _ (by omega) (renA_c (q p) hC h)
      exact ⟨a, by rw [b]⟩
def STL (C : CX) (q : Nat → Int32) (c : Nat) (RE : Nat → Nat → Prop) (V : AV) (p : Nat) : Prop := ¬ frA C V (q p) ∧ ∀ p' m, p' < c → RE p m → bt (q p') m = true → frA C V (q p')
/-- what can be renewed still can, behind the renewal of another one -/
theorem stl_ren (hT : TOP C q c RE) {V : AV} (hV : VI C q c V) {p k : Nat} (hp : p < c) (hk : k < c) (hne : ¬ k = p) (hs : STL C q c RE V p) (hr : ∀ m, RE p m → ¬ bt (q k) m = true) : STL C q c RE (renA C V (q k)) p := by
  refine ⟨fun z => hs.1 ((fr_other hT hV hk hp hne hr).mp z), fun p' m h1 h2 h3 => ?_⟩
  refine (fr_other hT hV hk h1 (fun e => hr m h2 (by rw [e]; exact h3)) (fun m' hm' => hr m' (hT.2.2.2.2.2.1 p p' m m' hp h1 h2 h3 hm'))).mpr (hs.2 p' m h1 h2 h3)
theorem due_ren (hT : TOP C q c RE) {p : Nat} (hp : p < c) : ∀ d k (V : AV), k + d = c → k ≤ p → VI C q c V → STL C q c RE V p → (pa C q d k V).2 = (pa C q d k (renA C V (q p))).2 + 1
  | 0, k, _, h1, h2, _, _ => absurd h2 (by omega)
  | d + 1, k, V, h1, h2, hV, hs => by
    rw [pa, pa]
    by_cases e : k = p
    · subst e
      rw [ifP_f hs.1, ifP_t (fr_after hT hp)]
    · have hB := fr_other hT hV hp (show k < c by omega) (fun z => e z.symm) (fun m hm => re_lt hT hp (by omega) hm)
      by_cases hf : frA C V (q k)
      · rw [ifP_t hf, ifP_t (hB.mpr hf)]
        exact due_ren hT hp d (k + 1) V (by omega) (by omega) hV hs
      · have hr : ∀ m, RE p m → ¬ bt (q k) m = true := fun m hm hb => hf (hs.2 k m (by omega) hm hb)
        rw [ifP_f hf, ifP_f (fun z => hf (hB.mp z))]
        show (pa C q d (k + 1) (renA C V (q k))).2 + 1 = (pa C q d (k + 1) (renA C (renA C V (q p)) (q k))).2 + 1 + 1
        rw [due_ren hT hp d (k + 1) (renA C V (q k)) (by omega) (by omega) (VI_ren hT hV (by omega)) (stl_ren hT hV hp (by omega) e hs hr)]
        rw [(pa_c hT.1 hT.2.1 d (k + 1) _ _ (by omega) (ren_comm hT hV hp (show k < c by omega) (fun z => e z.symm) (fun m hm => re_lt hT hp (by omega) hm) hr)).2]
theorem pa_zero : ∀ d k (V : AV), (pa C q d k V).2 = 0 ↔ ∀ p, k ≤ p → p < k + d → frA C V (q p)
  | 0, k, V => ⟨fun _ p h1 h2 => absurd h2 (by omega), fun _ => rfl⟩
  | d + 1, k, V => by
    rw [pa]
    by_cases hf : frA C V (q k)
    · rw [ifP_t hf, pa_zero d (k + 1) V]
      constructor
      · intro h p h1 h2
        by_cases e : p = k
        · rw [e]; exact hf
        · exact h p (by omega) (by omega)
      · exact fun h p h1 h2 => h p (by omega) (by omega)
    · rw [ifP_f hf]
      exact ⟨fun h => absurd h (by simp), fun h => absurd (h k (Nat.le_refl _) (by omega)) hf⟩
theorem pa_le : ∀ d k (V : AV), (pa C q d k V).2 ≤ d
  | 0, k, V => Nat.le_refl 0
  | d + 1, k, V => by
    rw [pa]
    by_cases hf : frA C V (q k)
    · rw [ifP_t hf]
      have := pa_le d (k + 1) V
      omega
    · rw [ifP_f hf]
      have := pa_le d (k + 1) (renA C V (q k))
      show _ + 1 ≤ _
      omega
/-- behind a pass nothing is stale -/
theorem pa_fresh (hT : TOP C q c RE) : ∀ d k (V : AV), k + d = c → VI C q c V → (∀ p, p < k → frA C V (q p)) → VI C q c (pa C q d k V).1 ∧ ∀ p, p < c → frA C (pa C q d k V).1 (q p)
  | 0, k, V, h1, hV, h => ⟨hV, fun p hp => h p (by omega)⟩
  | d + 1, k, V, h1, hV, h => by
    rw [pa]
    by_cases hf : frA C V (q k)
    · rw [ifP_t hf]
      refine pa_fresh hT d (k + 1) V (by omega) hV (fun p hp => ?_)
      by_cases e : p = k
      · rw [e]; exact hf
      · exact h p (by omega)
    · rw [ifP_f hf]
      refine pa_fresh hT d (k + 1) _ (by omega) (VI_ren hT hV (by omega)) (fun p hp => ?_)
      by_cases e : p = k
      · rw [e]; exact fr_after hT (by omega)
      · exact (fr_other hT hV (show k < c by omega) (show p < c by omega) (fun z => e z.symm) (fun m hm => re_lt hT (by omega) (by omega) hm)).mpr (h p (by omega))
theorem pa_skip : ∀ k d (V : AV), (∀ p, p < k → frA C V (q p)) → ∀ j, j ≤ k → pa C q (k - j + d) j V = pa C q d k V
  | k, d, V, h, j, hj => by
    induction hn : k - j generalizing j with
    | zero =>
      have : j = k := by omega
      subst this
      rw [Nat.zero_add]
    | succ n ih =>
      rw [show n + 1 + d = (n + d) + 1 by omega, pa, ifP_t (h j (by omega))]
      exact ih (j + 1) (by omega) (by omega)
/-- a build of some -/
noncomputable def pb (C : CX) (q : Nat → Int32) : Nat → Nat → Nat → AV → AV × Nat
  | 0, _, _, V => (V, 0)
  | d + 1, p, n, V => if n = 0 then (V, 0) else ifP (frA C V (q p)) (pb C q d (p + 1) n V) ((pb C q d (p + 1) (n - 1) (renA C V (q p))).1, (pb C q d (p + 1) (n - 1) (renA C V (q p))).2 + 1)
theorem pb_due (hT : TOP C q c RE) : ∀ d p n (V : AV), p + d = c → VI C q c V → (∀ k, k < p → frA C V (q k)) → VI C q c (pb C q d p n V).1 ∧ (pa C q d p V).2 = (pb C q d p n V).2 + (pa C q c 0 (pb C q d p n V).1).2
  | 0, p, n, V, h1, hV, h => by
    refine ⟨hV, ?_⟩
    show 0 = 0 + (pa C q c 0 V).2
    rw [(pa_zero c 0 V).mpr (fun k _ hk => h k (by omega))]
  | d + 1, p, n, V, h1, hV, h => by
    rw [pb]
    by_cases hn : n = 0
    · rw [if_pos hn]
      refine ⟨hV, ?_⟩
      show _ = 0 + (pa C q c 0 V).2
      have := pa_skip p (d + 1) V h 0 (by omega)
      rw [show p - 0 + (d + 1) = c by omega] at this
      rw [this, Nat.zero_add]
    · rw [if_neg hn, pa]
      by_cases hf : frA C V (q p)
      · rw [ifP_t hf, ifP_t hf]
        refine pb_due hT d (p + 1) n V (by omega) hV (fun k hk => ?_)
        by_cases e : k = p
        · rw [e]; exact hf
        · exact h k (by omega)
      · rw [ifP_f hf, ifP_f hf]
        obtain ⟨a, b⟩ := pb_due hT d (p + 1) (n - 1) (renA C V (q p)) (by omega) (VI_ren hT hV (by omega)) (fun k hk => by
          by_cases e : k = p
          · rw [e]; exact fr_after hT (by omega)
          · exact (fr_other hT hV (show p < c by omega) (show k < c by omega) (fun z => e z.symm) (fun m hm => re_lt hT (by omega) (by omega) hm)).mpr (h k (by omega)))
        refine ⟨a, ?_⟩
        show (pa C q d (p + 1) (renA C V (q p))).2 + 1 = (pb C q d (p + 1) (n - 1) (renA C V (q p))).2 + 1 + (pa C q c 0 (pb C q d (p + 1) (n - 1) (renA C V (q p))).1).2
        rw [b]; omega
theorem pb_all : ∀ d p n (V : AV), d ≤ n → pb C q d p n V = pa C q d p V
  | 0, _, _, _, _ => rfl
  | d + 1, p, n, V, h => by
    rw [pb, pa, if_neg (by omega), pb_all d (p + 1) n V (by omega), pb_all d (p + 1) (n - 1) _ (by omega)]
end PASS
