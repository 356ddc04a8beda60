/-! TWO STATES with the same texts and answers: a maker is given the same -/
def SAMX (σ1 : Sg) (t1 : Nat) (σ2 : Sg) (t2 m : Nat) : Prop := σ1.1 28 t1 m = σ2.1 28 t2 m ∧ (∀ k, k < cnt σ1 t1 m → σ1.1 27 t1 (m * 5 + k) = σ2.1 27 t2 (m * 5 + k)) ∧ ∀ n, n < 16 → σ1.1 26 t1 (m * 16 + n) = σ2.1 26 t2 (m * 16 + n)
theorem SAMX.tr {a b c : Sg} {t1 t2 t3 m : Nat} (h1 : SAMX a t1 b t2 m) (h2 : SAMX b t2 c t3 m) : SAMX a t1 c t3 m := by
  have hc : cnt b t2 m = cnt a t1 m := by unfold cnt; rw [h1.1]
  exact ⟨h1.1.trans h2.1, fun k hk => (h1.2.1 k hk).trans (h2.2.1 k (by rw [hc]; exact hk)), fun n hn => (h1.2.2 n hn).trans (h2.2.2 n hn)⟩
theorem SAMX.sy {a b : Sg} {t1 t2 m : Nat} (h1 : SAMX a t1 b t2 m) : SAMX b t2 a t1 m := by
  have hc : cnt b t2 m = cnt a t1 m := by unfold cnt; rw [h1.1]
  exact ⟨h1.1.symm, fun k hk => (h1.2.1 k (by rw [← hc]; exact hk)).symm, fun n hn => (h1.2.2 n hn).symm⟩
theorem srcG_c {p : Int32 → Bool} {f g : Nat → Int32} {c : Nat} (h : ∀ k, k < c → f k = g k) : ∀ d, d ≤ c → srcG p f c d = srcG p g c d
  | 0, _ => rfl
  | d + 1, hd => by rw [srcG, srcG, h _ (by omega), srcG_c h d (by omega)]
theorem allG_c {q : Int32 → Bool} {f g : Nat → Int32} {c : Nat} (h : ∀ k, k < c → f k = g k) (x : Nat) : ∀ d, d ≤ c → allG q f c d x = allG q g c d x
  | 0, _ => rfl
  | d + 1, hd => by rw [allG, allG, h _ (by omega), allG_c h x d (by omega)]
theorem foldJ_c {o1 o2 : Nat → Int32} {a1 a2 : Nat → Bool} {nm : Nat} : ∀ k, (∀ f, f < k → a1 f = a2 f) → (∀ f, f < k → a1 f = true → o1 (f * 16 + nm) = o2 (f * 16 + nm)) → foldJ o1 a1 nm k = foldJ o2 a2 nm k
  | 0, _, _ => rfl
  | k + 1, h1, h2 => by
    rw [foldJ, foldJ, ← h1 k (by omega), foldJ_c k (fun f hf => h1 f (by omega)) (fun f hf => h2 f (by omega))]
    by_cases h : a1 k = true
    · rw [if_pos h, if_pos h, h2 k (by omega) h]
    · rw [if_neg h, if_neg h]
theorem foldJ_in {o : Nat → Int32} {a : Nat → Bool} {nm j : Nat} (hj : j < 128) : ∀ k, foldJ o a nm k = nI j → ∃ f, f < k ∧ a f = true ∧ o (f * 16 + nm) = nI j
  | 0, h => absurd h.symm (nI_ne_m1 (by omega))
  | k + 1, h => by
    have go : foldJ o a nm k = nI j → ∃ f, f < k + 1 ∧ a f = true ∧ o (f * 16 + nm) = nI j := fun q => by
      obtain ⟨f, x, y, z⟩ := foldJ_in hj k q
      exact ⟨f, by omega, y, z⟩
    rw [foldJ] at h
    by_cases ha : a k = true
    · rw [if_pos ha] at h
      unfold jn at h
      by_cases h1 : foldJ o a nm k = -1
      · rw [if_pos h1] at h; exact ⟨k, by omega, ha, h⟩
      · rw [if_neg h1] at h
        by_cases h2 : o (k * 16 + nm) = -1
        · rw [if_pos h2] at h; exact go h
        · rw [if_neg h2] at h
          by_cases h3 : o (k * 16 + nm) = foldJ o a nm k
          · rw [if_pos h3] at h; exact go h
          · rw [if_neg h3] at h; exact absurd h.symm (nI_ne_m2 (by omega))
    · rw [if_neg ha] at h; exact go h
/-- a state of which the names are those of its text -/
def WFN (σ : Sg) (mc : Nat) : Prop := TX σ 0 ∧ mc ≤ 8 ∧ NMS σ mc
theorem OV.sl2 {σ : Sg} {mc s : Nat} {v : Int32} (h : OV σ mc s v) : SL2 v := by
  rcases h with h | h | ⟨j, hj, h, _⟩
  · exact Or.inl h
  · exact Or.inr (Or.inl h)
  · exact Or.inr (Or.inr ⟨j, hj, h⟩)
theorem WFN.osl {σ : Sg} {mc : Nat} (h : WFN σ mc) : OSL σ := fun s hs => (h.2.2.2.1 s hs).1.sl2
section SAM2
variable {σ1 σ2 : Sg} {mc1 mc2 m : Nat}
theorem sam_cnt (h : SAMX σ1 0 σ2 0 m) : cnt σ1 0 m = cnt σ2 0 m := by unfold cnt; rw [h.1]
theorem sam_9 (w1 : WFN σ1 mc1) (w2 : WFN σ2 mc2) (h1 : m < mc1) (h2 : m < mc2) (h : SAMX σ1 0 σ2 0 m) {nm : Nat} (hn : nm < 16) : σ1.1 9 0 (m * 16 + nm) = σ2.1 9 0 (m * 16 + nm) := by
  rw [w1.2.2.1.1 m nm h1 hn, w2.2.2.1.1 m nm h2 hn, ← sam_cnt h]
  exact srcG_c (fun k hk => h.2.1 k hk) _ (Nat.le_refl _)
theorem sam_11 (w1 : WFN σ1 mc1) (w2 : WFN σ2 mc2) (h1 : m < mc1) (h2 : m < mc2) (h : SAMX σ1 0 σ2 0 m) {f : Nat} (hf : f < 32) : bt (σ1.1 11 0 m) f = bt (σ2.1 11 0 m) f := by
  rw [w1.2.2.1.2.2.1 m f h1 hf, w2.2.2.1.2.2.1 m f h2 hf, ← sam_cnt h]
  exact allG_c (fun k hk => h.2.1 k hk) _ _ (Nat.le_refl _)
theorem sam_W1 (w1 : WFN σ1 mc1) (w2 : WFN σ2 mc2) (h1 : m < mc1) (h2 : m < mc2) (h : SAMX σ1 0 σ2 0 m) {nm sl : Nat} (hsl : sl < 128) : W1 σ1 m nm sl ↔ W1 σ2 m nm sl := by
  unfold W1
  by_cases hn : nm < 16
  · rw [h.2.2 nm hn, sam_9 w1 w2 h1 h2 h hn, sam_11 w1 w2 h1 h2 h (show sl / 16 < 32 by omega)]
  · exact ⟨(fun q => absurd q.1 hn), fun q => absurd q.1 hn⟩
theorem sam_WR (w1 : WFN σ1 mc1) (w2 : WFN σ2 mc2) (h1 : m < mc1) (h2 : m < mc2) (h : SAMX σ1 0 σ2 0 m) {s sl : Nat} (hs : s / 16 = m) (hsl : sl < 128) : WR σ1 s sl ↔ WR σ2 s sl := by
  have e : σ1.1 26 0 s = σ2.1 26 0 s := by
    have := h.2.2 (s % 16) (by omega)
    rw [show m * 16 + s % 16 = s by omega] at this
    exact this
  unfold WR
  rw [e, hs]
  constructor
  · rintro ⟨a, side, b, c, d⟩; exact ⟨a, side, b, c, (sam_W1 w1 w2 h1 h2 h hsl).mp d⟩
  · rintro ⟨a, side, b, c, d⟩; exact ⟨a, side, b, c, (sam_W1 w1 w2 h1 h2 h hsl).mpr d⟩
theorem wtB_t {σ : Sg} {mc : Nat} (w : WFN σ mc) {sl : Nat} (hm : m < mc) (hsl : sl < 128) : wtB σ m sl = true ↔ ∃ s, s / 16 = m ∧ WR σ s sl := by
  have hmc := w.2.1
  unfold wtB
  rw [w.2.2.2.2.2 m sl (by omega) hsl]
  constructor
  · rintro ⟨s, a, b, c⟩; exact ⟨s, b, c⟩
  · rintro ⟨s, b, c⟩; exact ⟨s, by omega, b, c⟩
theorem sam_wtB (w1 : WFN σ1 mc1) (w2 : WFN σ2 mc2) (h1 : m < mc1) (h2 : m < mc2) (h : SAMX σ1 0 σ2 0 m) {sl : Nat} (hsl : sl < 128) : wtB σ1 m sl = wtB σ2 m sl := by
  apply Bool.eq_iff_iff.mpr
  rw [wtB_t w1 h1 hsl, wtB_t w2 h2 hsl]
  constructor
  · rintro ⟨s, a, b⟩; exact ⟨s, a, (sam_WR w1 w2 h1 h2 h a hsl).mp b⟩
  · rintro ⟨s, a, b⟩; exact ⟨s, a, (sam_WR w1 w2 h1 h2 h a hsl).mpr b⟩
end SAM2
/-- a ring that is one in both -/
def RBO (σ1 : Sg) (mc1 : Nat) (σ2 : Sg) (mc2 : Nat) (ring : Int32) : Prop := ∀ m, m < 8 → bt ring m = true → m < mc1 ∧ m < mc2 ∧ SAMX σ1 0 σ2 0 m
theorem sam_wtR {σ1 σ2 : Sg} {mc1 mc2 : Nat} {ring : Int32} (w1 : WFN σ1 mc1) (w2 : WFN σ2 mc2) (h : RBO σ1 mc1 σ2 mc2 ring) {sl : Nat} (hsl : sl < 128) : wtR σ1 ring 8 sl = wtR σ2 ring 8 sl := by
  apply Bool.eq_iff_iff.mpr
  rw [wtR_t, wtR_t]
  constructor
  · rintro ⟨m, a, b, c⟩
    obtain ⟨x, y, z⟩ := h m a b
    exact ⟨m, a, b, by rw [← sam_wtB w1 w2 x y z hsl]; exact c⟩
  · rintro ⟨m, a, b, c⟩
    obtain ⟨x, y, z⟩ := h m a b
    exact ⟨m, a, b, by rw [sam_wtB w1 w2 x y z hsl]; exact c⟩
theorem WFN.dok {σ : Sg} {mc : Nat} {ring : Int32} (w : WFN σ mc) (hr : ∀ m, m < 8 → bt ring m = true → m < mc) : DOK ring (σ.1 26 0) (σ.1 7 0) := by
  have hmc := w.2.1
  refine ⟨fun s side hs _ h0 hsd => ?_, fun x hx hin => ?_⟩
  · have := w.1.2.2 s hs h0
    have h2 : side = 0 ∨ side = 1 := by omega
    rcases h2 with rfl | rfl
    · exact this.1
    · exact this.2
  · have hm := hr (x / 16) (by omega) hin
    rw [w.2.2.2.2.1 x (by omega)]
    split
    · refine brV_in (V := SL2) _ _ _ _ (Or.inl rfl) (Or.inr (Or.inl rfl)) (fun hn => ?_) (fun f hf _ => w.osl _ (by omega))
      rcases SIR.sl1 w.1 w.2.1 w.2.2.1 (show x < mc * 16 by omega) 9 (Or.inl rfl) with q | ⟨j, hj, q⟩
      · exact absurd q hn
      · rw [q, cl_nI (by omega)]; exact w.osl j hj
    · exact Or.inr (Or.inr ⟨x, hx, rfl⟩)
/-- the same ring, the same answers: the same is given -/
theorem nEV_same {σ1 σ2 : Sg} {mc1 mc2 : Nat} {ring : Int32} {an1 an2 : Nat → Int64} (w1 : WFN σ1 mc1) (w2 : WFN σ2 mc2) (h : RBO σ1 mc1 σ2 mc2 ring) (a1 : AJ an1) (a2 : AJ an2) (hA : ∀ sl, sl < 128 → wtR σ1 ring 8 sl = true → aToA (σ1.1 6 0) an1 ring sl = aToA (σ2.1 6 0) an2 ring sl) : nEV ring (σ1.1 26 0) (σ1.1 7 0) an1 = nEV ring (σ2.1 26 0) (σ2.1 7 0) an2 := by
  have hm1 := w1.2.1
  have hm2 := w2.2.1
  have dk := w1.dok (ring := ring) (fun m hm hb => (h m hm hb).1)
  have key : ∀ x, rsl ring (cdec ring (σ1.1 26 0)) x → σ1.1 7 0 x = σ2.1 7 0 x ∧ ∀ j, j < 128 → inR ring j = false → σ1.1 7 0 x = nI j → an1 j = an2 j := by
    intro x hx
    obtain ⟨x1, x2⟩ := rsl_lt dk hx
    obtain ⟨s, side, hs, hm, hsd, h0, e⟩ := hx
    obtain ⟨c1, c2, c3, c4⟩ := cdec_mem hm
    rw [c3] at h0 e
    have h16 := dk.1 s side c1 c2 c4 hsd
    generalize hn : refN (σ1.1 26 0 s) side - 1 = n at e
    have hn16 : n < 16 := by omega
    obtain ⟨r1, r2, r3⟩ := h (s / 16) (by omega) c2
    generalize hmm : s / 16 = m at *
    have ed : σ1.1 26 0 x = σ2.1 26 0 x := by rw [e]; exact r3.2.2 n hn16
    have ex : x / 16 = m := by omega
    have ey : x % 16 = n := by omega
    have e9 : σ1.1 9 0 x = σ2.1 9 0 x := by rw [e]; exact sam_9 w1 w2 r1 r2 r3 hn16
    rw [w1.2.2.2.2.1 x (by omega), w2.2.2.2.2.1 x (by omega), ← ed, ex, ey, ← e9]
    by_cases hd : σ1.1 26 0 x = 0
    · rw [if_pos hd, if_pos hd]
      have want : ∀ sl, sl < 128 → (σ1.1 9 0 (m * 16 + n) = nI sl ∨ (σ1.1 9 0 (m * 16 + n) = -1 ∧ sl % 16 = n ∧ bt (σ1.1 11 0 m) (sl / 16) = true)) → σ1.1 6 0 sl = σ2.1 6 0 sl ∧ ∀ j, j < 128 → σ1.1 6 0 sl = nI j → bt ring (j / 16) = false → an1 j = an2 j := by
        intro sl hsl hq
        have hw : wtR σ1 ring 8 sl = true := (wtR_t _).mpr ⟨m, by omega, (by have q := c2; unfold inR at q; rw [hmm] at q; exact q), (wtB_t w1 r1 hsl).mpr ⟨s, hmm, c4, side, hsd, h0, by rw [hmm, hn]; exact ⟨hn16, by rw [← e]; exact hd, hq⟩⟩⟩
        exact aTo_inj (w1.osl sl hsl) (w2.osl sl hsl) a1 a2 (hA sl hsl hw)
      unfold brV
      by_cases hs1 : σ1.1 9 0 x = -1
      · rw [if_pos hs1, if_pos hs1]
        have hf : ∀ f, f < 8 → bt (σ1.1 11 0 m) f = true → σ1.1 6 0 (f * 16 + n) = σ2.1 6 0 (f * 16 + n) ∧ ∀ j, j < 128 → σ1.1 6 0 (f * 16 + n) = nI j → bt ring (j / 16) = false → an1 j = an2 j := fun f hf hb => want (f * 16 + n) (by omega) (Or.inr ⟨by rw [← e]; exact hs1, by omega, by rw [show (f * 16 + n) / 16 = f by omega]; exact hb⟩)
        refine ⟨foldJ_c 8 (fun f hf8 => sam_11 w1 w2 r1 r2 r3 (by omega)) (fun f hf8 hb => (hf f hf8 hb).1), fun j hj hr hq => ?_⟩
        obtain ⟨f, f1, f2, f3⟩ := foldJ_in hj 8 hq
        exact (hf f f1 f2).2 j hj f3 hr
      · rw [if_neg hs1, if_neg hs1]
        rcases SIR.sl1 w1.1 w1.2.1 w1.2.2.1 (show x < mc1 * 16 by omega) 9 (Or.inl rfl) with q | ⟨sl, hsl, q⟩
        · exact absurd q hs1
        · rw [q, cl_nI (by omega)]
          obtain ⟨g1, g2⟩ := want sl hsl (Or.inl (by rw [← e]; exact q))
          exact ⟨g1, fun j hj hr hq => g2 j hj hq hr⟩
    · rw [if_neg hd, if_neg hd]
      refine ⟨rfl, fun j hj hr hq => ?_⟩
      have : x = j := (nI_eq (by omega) (by omega)).mp hq
      rw [← this] at hr
      rw [hr] at x2; cases x2
  refine nEV_eq (fun s hs hr => ?_) (fun x hx => (key x hx).1) (fun j hj => ?_)
  · have := (h (s / 16) (by omega) hr).2.2.2.2 (s % 16) (by omega)
    rw [show s / 16 * 16 + s % 16 = s by omega] at this
    exact this
  · obtain ⟨j1, j2, x, hx, hy⟩ := hj
    exact (key x hx).2 j j1 j2 hy
