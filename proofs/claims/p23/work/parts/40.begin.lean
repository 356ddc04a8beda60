/-! WORKS: a result begun; texts the same; answers; what is noted -/
/-- where a fresh result may change things: its own rows and its text -/
def BF (r : Nat) (σ σ' : Sg) : Prop :=
  (∀ c o, ¬ ((30 ≤ c ∧ c ≤ 36 ∧ o = r) ∨ (26 ≤ c ∧ c ≤ 29 ∧ o = r + 2)) → σ'.1 c o = σ.1 c o) ∧ (∀ c o, ¬ ((c = 0 ∨ c = 1) ∧ o = r) → σ'.2.1 c o = σ.2.1 c o) ∧ σ'.2.2 = σ.2.2
theorem BF.tr {r : Nat} {a b c : Sg} (h1 : BF r a b) (h2 : BF r b c) : BF r a c := ⟨fun x o hx => (h2.1 x o hx).trans (h1.1 x o hx), fun x o hx => (h2.2.1 x o hx).trans (h1.2.1 x o hx), h2.2.2.trans h1.2.2⟩
theorem BF.w {r : Nat} (σ : Sg) {c o : Nat} (i : Nat) (v : Int32) (h : (30 ≤ c ∧ c ≤ 36 ∧ o = r) ∨ (26 ≤ c ∧ c ≤ 29 ∧ o = r + 2)) : BF r σ (wI σ c o i v) :=
  ⟨fun x y hx => wI_co σ c o i v (fun q => hx (by rw [q.1, q.2]; exact h)), fun _ _ _ => rfl, rfl⟩
theorem BF.row {r : Nat} (σ : Sg) {c o : Nat} (f : Nat → Int32) (h : (30 ≤ c ∧ c ≤ 36 ∧ o = r) ∨ (26 ≤ c ∧ c ≤ 29 ∧ o = r + 2)) : BF r σ (rowI σ c o f) :=
  ⟨fun x y hx => by rw [rowI_1, if_neg (fun q => hx (by rw [q.1, q.2]; exact h))], fun _ _ _ => rfl, rfl⟩
theorem BF.j {r : Nat} (σ : Sg) {c : Nat} (i : Nat) (v : Int64) (h : c = 0 ∨ c = 1) : BF r σ (wJ σ c r i v) :=
  ⟨fun _ _ _ => rfl, fun x y hx => wJ_co σ c r i v (fun q => hx ⟨by rw [q.1]; exact h, q.2⟩), rfl⟩
/-- a text copied -/
def TCP (σ σ' : Sg) (t t' : Nat) : Prop := (∀ j, j < 128 → σ'.1 26 t j = σ.1 26 t' j) ∧ (∀ j, j < 40 → σ'.1 27 t j = σ.1 27 t' j) ∧ (∀ j, j < 8 → σ'.1 28 t j = σ.1 28 t' j) ∧ σ'.1 29 t 0 = σ.1 29 t' 0
theorem q_copy {σ : Sg} {t t' : Nat} (ht : ¬ t = t') : ok (fun σ' => TCP σ σ' t t' ∧ (∀ c o, ¬ (26 ≤ c ∧ c ≤ 29 ∧ o = t) → σ'.1 c o = σ.1 c o) ∧ σ'.2 = σ.2) (m_X8_copy σ t t') := by
  unfold m_X8_copy
  simp only [st_s]
  have hcp : ∀ (f g : Nat → Int32) n j, j < n → va_cpy f g 0 0 n j = f j := fun f g n j hj => by rw [pk_cpy_in (by omega) (by omega)]; congr 1; omega
  refine ok_r ⟨⟨fun j hj => ?_, fun j hj => ?_, fun j hj => ?_, ?_⟩, fun c o hx => ?_, rfl⟩
  · rw [wI_ne _ _ _ _ _ _ (by decide), rowI_1, if_neg (by omega), rowI_1, if_neg (by omega), rowI_1, if_pos ⟨rfl, rfl⟩, hcp _ _ _ _ hj]
  · rw [wI_ne _ _ _ _ _ _ (by decide), rowI_1, if_neg (by omega), rowI_1, if_pos ⟨rfl, rfl⟩, hcp _ _ _ _ hj, rowI_1, if_neg (by omega)]
  · rw [wI_ne _ _ _ _ _ _ (by decide), rowI_1, if_pos ⟨rfl, rfl⟩, hcp _ _ _ _ hj, rowI_1, if_neg (by omega), rowI_1, if_neg (by omega)]
  · rw [wI_s, rowI_1, if_neg (by omega), rowI_1, if_neg (by omega), rowI_1, if_neg (by omega)]
  · rw [wI_co _ _ _ _ _ (by omega), rowI_1, if_neg (by omega), rowI_1, if_neg (by omega), rowI_1, if_neg (by omega)]
theorem wJ_row (σ : Sg) (c o i : Nat) (f : Nat → Int64) (v : Int64) : wJ (rowJ σ c o f) c o i v = rowJ σ c o (vp_updL f i v) := by
  unfold wJ rowJ
  refine Prod.ext rfl (Prod.ext ?_ rfl)
  funext c' o'
  dsimp only
  by_cases h : c' = c ∧ o' = o
  · simp [h]
  · simp [h]
theorem rowJ_self (σ : Sg) (c o : Nat) : rowJ σ c o (σ.2.1 c o) = σ := by
  unfold rowJ
  refine Prod.ext rfl (Prod.ext ?_ rfl)
  funext c' o'
  dsimp only
  split
  · rename_i h; rw [h.1, h.2]
  · rfl
theorem q_fillJ (σ : Sg) (c o : Nat) {n : Nat} (x : Int64) (hn : n < 1000) : m_J7_fill_d0a16 σ c o n x = some (rowJ σ c o (fun j => if j < n then x else σ.2.1 c o j)) := by
  have key : ∀ k i, i ≤ n → n - i < k → m_J7_fill_d0a16_6 c o n x k (rowJ σ c o (fun j => if j < i then x else σ.2.1 c o j)) (nI i) (nI n) = some (rowJ σ c o (fun j => if j < n then x else σ.2.1 c o j)) := by
    intro k
    induction k with
    | zero => intro i _ h; omega
    | succ k ih =>
      intro i hi hk
      rw [m_J7_fill_d0a16_6]
      by_cases h : i = n
      · subst h
        rw [if_pos (by rw [nI_leI (by omega) (by omega)]; omega)]
      · rw [if_neg (by rw [nI_leI (by omega) (by omega)]; omega), chk_e (inb_nI (by omega) (by omega))]
        unfold st
        rw [cl_nI (by omega), wJ_row, nI_1]
        have e : vp_updL (fun j => if j < i then x else σ.2.1 c o j) i x = fun j => if j < i + 1 then x else σ.2.1 c o j := by
          funext j
          unfold vp_updL
          dsimp only
          by_cases h1 : j = i
          · subst h1; simp
          · rw [if_neg h1]
            by_cases h2 : j < i
            · rw [if_pos h2, if_pos (by omega)]
            · rw [if_neg h2, if_neg (by omega)]
        rw [e]
        exact ih (i + 1) (by omega) (by omega)
  have h0 := key 1000 0 (by omega) (by omega)
  have e0 : rowJ σ c o (fun j => if j < 0 then x else σ.2.1 c o j) = σ := by
    have : (fun j => if j < 0 then x else σ.2.1 c o j) = σ.2.1 c o := by funext j; simp
    rw [this, rowJ_self]
  rw [e0] at h0
  exact h0
theorem ansOf_df (i : Nat) : ansOf dfD i = ansV (nI i) 1 1 0 0 := rfl
theorem s_unbuilt {σ0 σ : Sg} {r s : Nat} (hs : s < 128) : ok (fun σ' => BF r σ σ' ∧ (∀ c i, 31 ≤ c → c ≤ 36 → σ'.1 c r i = if i = s then dfD c i else σ.1 c r i) ∧ (∀ c, ¬ (31 ≤ c ∧ c ≤ 36) → σ'.1 c = σ.1 c) ∧ (∀ i, σ'.2.1 1 r i = if i = s then ansOf dfD i else σ.2.1 1 r i) ∧ σ'.2.1 0 r = σ.2.1 0 r) (m_X5_setUnbuilt σ r (nI s)) := by
  unfold m_X5_setUnbuilt
  rw [q_of, bnd_s]
  simp (disch := omega) only [chk_n, cl_nI, st_s]
  refine ok_r ⟨?_, fun c i h1 h2 => ?_, fun c hc => ?_, fun i => ?_, ?_⟩
  · refine (((((((BF.j _ _ _ (Or.inr rfl)).tr (BF.w _ _ _ (Or.inl ⟨by omega, by omega, rfl⟩))).tr (BF.w _ _ _ (Or.inl ⟨by omega, by omega, rfl⟩))).tr (BF.w _ _ _ (Or.inl ⟨by omega, by omega, rfl⟩))).tr (BF.w _ _ _ (Or.inl ⟨by omega, by omega, rfl⟩))).tr (BF.w _ _ _ (Or.inl ⟨by omega, by omega, rfl⟩))).tr (BF.w _ _ _ (Or.inl ⟨by omega, by omega, rfl⟩)))
  · have hc : c = 31 ∨ c = 32 ∨ c = 33 ∨ c = 34 ∨ c = 35 ∨ c = 36 := by omega
    rcases hc with rfl | rfl | rfl | rfl | rfl | rfl <;> (by_cases e : i = s <;> simp [wI_1, wJ_i, e, dfD])
  · funext o i
    simp only [wI_1, wJ_i]
    rw [if_neg (by omega), if_neg (by omega), if_neg (by omega), if_neg (by omega), if_neg (by omega), if_neg (by omega)]
  · show (wJ σ 1 r s (ansV (nI s) 1 1 0 0)).2.1 1 r i = _
    rw [wJ_1]
    by_cases e : i = s
    · subst e; rw [if_pos ⟨rfl, rfl, rfl⟩, if_pos rfl, ansOf_df]
    · rw [if_neg (fun q => e q.2.2), if_neg e]
  · show (wJ σ 1 r s (ansV (nI s) 1 1 0 0)).2.1 0 r = _
    exact wJ_co _ _ _ _ _ (by omega)
/-- a result begun -/
def BEG (σ0 σ : Sg) (r t : Nat) (ring : Int32) : Prop := BF r σ0 σ ∧ σ.1 30 r 0 = ring ∧ TCP σ0 σ (r + 2) t ∧ OWN dfD σ r ∧ (∀ i, i < 128 → σ.2.1 0 r i = -3) ∧ ∀ i, i < 128 → σ.2.1 1 r i = ansOf dfD i
theorem s_begin {σ : Sg} {r t : Nat} {ring : Int32} (ht : ¬ r + 2 = t) : ok (fun σ' => BEG σ σ' r t ring) (m_X5_begin σ r ring t) := by
  unfold m_X5_begin
  simp only [st_s]
  refine ok_b (q_copy (σ := wI σ 30 r 0 ring) ht) (fun σa ha => ?_)
  obtain ⟨a1, a2, a3⟩ := ha
  rw [q_fillJ _ _ _ _ (by decide), bnd_s]
  generalize hb : rowJ σa 0 r (fun j => if j < 128 then -3 else σa.2.1 0 r j) = σb
  have b1 : σb.1 = σa.1 := by rw [← hb]; rfl
  have b2 : ∀ c o, ¬ (c = 0 ∧ o = r) → σb.2.1 c o = σa.2.1 c o := fun c o h => by rw [← hb, rowJ_1, if_neg h]
  have b3 : ∀ i, i < 128 → σb.2.1 0 r i = -3 := fun i hi => by rw [← hb, rowJ_1, if_pos ⟨rfl, rfl⟩, if_pos hi]
  have b4 : σb.2.2 = σa.2.2 := by rw [← hb]; rfl
  have hF : BF r σ σb := ⟨fun c o hx => by rw [b1, a2 c o (fun q => hx (Or.inr q)), wI_co _ _ _ _ _ (fun q => hx (Or.inl ⟨by omega, by omega, q.2⟩))], fun c o hx => by rw [b2 c o (fun q => hx ⟨Or.inl q.1, q.2⟩), a3]; rfl, by rw [b4, a3]; rfl⟩
  have key : ∀ n s σ', s ≤ 128 → 128 - s < n → (BF r σ σ' ∧ (∀ c, ¬ (31 ≤ c ∧ c ≤ 36) → σ'.1 c = σb.1 c) ∧ (∀ c i, 31 ≤ c → c ≤ 36 → i < s → σ'.1 c r i = dfD c i) ∧ (∀ i, i < s → σ'.2.1 1 r i = ansOf dfD i) ∧ σ'.2.1 0 r = σb.2.1 0 r) →
      ok (fun σ' => BEG σ σ' r t ring) (m_X5_begin_25 r ring t n σ' (nI s)) := by
    intro n
    induction n with
    | zero => intro s σ' _ h; omega
    | succ n ih =>
      intro s σ' hs hn hI
      obtain ⟨i1, i2, i3, i4, i5⟩ := hI
      rw [m_X5_begin_25]
      simp (disch := omega) only [le_128]
      by_cases e : s = 128
      · subst e
        rw [if_pos (Nat.le_refl _)]
        refine ok_r ⟨i1, ?_, ?_, fun c i h1 h2 h3 => i3 c i h1 h2 h3, fun i hi => by rw [i5]; exact b3 i hi, i4⟩
        · rw [i2 30 (by omega), b1, a2 30 r (by omega), wI_s]
        · unfold TCP at *
          rw [i2 26 (by omega), i2 27 (by omega), i2 28 (by omega), i2 29 (by omega), b1]
          refine ⟨fun j hj => ?_, fun j hj => ?_, fun j hj => ?_, ?_⟩
          · rw [a1.1 j hj, wI_ne _ _ _ _ _ _ (by decide)]
          · rw [a1.2.1 j hj, wI_ne _ _ _ _ _ _ (by decide)]
          · rw [a1.2.2.1 j hj, wI_ne _ _ _ _ _ _ (by decide)]
          · rw [a1.2.2.2, wI_ne _ _ _ _ _ _ (by decide)]
      · rw [if_neg (by omega)]
        refine ok_b (s_unbuilt (σ0 := σ) (by omega)) (fun σ1 g => ?_)
        obtain ⟨g1, g2, g3, g4, g5⟩ := g
        rw [nI_1]
        refine ih (s + 1) σ1 (by omega) (by omega) ⟨i1.tr g1, fun c hc => by rw [g3 c hc, i2 c hc], fun c i h1 h2 h3 => ?_, fun i hi => ?_, by rw [g5, i5]⟩
        · rw [g2 c i h1 h2]
          by_cases e2 : i = s
          · rw [if_pos e2]
          · rw [if_neg e2]; exact i3 c i h1 h2 (by omega)
        · rw [g4 i]
          by_cases e2 : i = s
          · rw [if_pos e2]
          · rw [if_neg e2]; exact i4 i (by omega)
  show ok _ (m_X5_begin_25 r ring t 1000 σb (nI 0))
  exact key 1000 0 σb (by omega) (by omega) ⟨hF, fun _ _ => rfl, fun c i _ _ h => absurd h (by omega), fun i h => absurd h (by omega), rfl⟩
/-- texts the same -/
def SAME (σ : Sg) (t t' m : Nat) : Prop := σ.1 28 t m = σ.1 28 t' m ∧ (∀ k, k < cnt σ t m → σ.1 27 t (m * 5 + k) = σ.1 27 t' (m * 5 + k)) ∧ ∀ n, n < 16 → σ.1 26 t (m * 16 + n) = σ.1 26 t' (m * 16 + n)
theorem q_same {σ : Sg} {t t' m : Nat} (hm : m < 8) (hc : cnt σ t m ≤ 5 ∧ σ.1 28 t m = nI (cnt σ t m)) : ∃ v : Int32, m_X8_isSame σ t t' (nI m) = some v ∧ (v = 0 ∨ v = 1) ∧ (¬ v = 0 ↔ SAME σ t t' m) := by
  obtain ⟨h5, he⟩ := hc
  have k2 : ∀ n s, s ≤ 16 → 16 - s < n → (∀ j, j < s → σ.1 26 t (m * 16 + j) = σ.1 26 t' (m * 16 + j)) → ∃ v : Int32, m_X8_isSame_57 σ t t' (nI m) n (nI (m * 16 + s)) = some v ∧ (v = 0 ∨ v = 1) ∧ (¬ v = 0 ↔ ∀ j, j < 16 → σ.1 26 t (m * 16 + j) = σ.1 26 t' (m * 16 + j)) := by
    intro n
    induction n with
    | zero => intro s _ h; omega
    | succ n ih =>
      intro s hs hn hp
      rw [m_X8_isSame_57, mu16, show nI (m * 16) + (16 : Int32) = nI (m * 16 + 16) from nI_add _ 16]
      simp (disch := omega) only [le_n]
      by_cases e : s = 16
      · subst e
        rw [if_pos (Nat.le_refl _)]
        exact ⟨1, rfl, Or.inr rfl, fun _ => hp, fun _ => by decide⟩
      · rw [if_neg (by omega), chk_n (by omega) (by omega), chk_n (by omega) (by omega), cl_nI (by omega)]
        by_cases h : σ.1 26 t (m * 16 + s) = σ.1 26 t' (m * 16 + s)
        · rw [if_pos h, nI_1]
          exact ih (s + 1) (by omega) (by omega) (fun j hj => by
            by_cases e2 : j = s
            · rw [e2]; exact h
            · exact hp j (by omega))
        · rw [if_neg h]
          exact ⟨0, rfl, Or.inl rfl, fun q => absurd rfl q, fun q => absurd (q s (by omega)) h⟩
  have k1 : ∀ n k, k ≤ cnt σ t m → cnt σ t m - k < n → (∀ j, j < k → σ.1 27 t (m * 5 + j) = σ.1 27 t' (m * 5 + j)) → ∃ v : Int32, m_X8_isSame_19 σ t t' (nI m) n (nI k) = some v ∧ (v = 0 ∨ v = 1) ∧ (¬ v = 0 ↔ (∀ j, j < cnt σ t m → σ.1 27 t (m * 5 + j) = σ.1 27 t' (m * 5 + j)) ∧ ∀ j, j < 16 → σ.1 26 t (m * 16 + j) = σ.1 26 t' (m * 16 + j)) := by
    intro n
    induction n with
    | zero => intro k _ h; omega
    | succ n ih =>
      intro k hk hn hp
      rw [m_X8_isSame_19, chk_n (by omega) (by omega), cl_nI (by omega), he]
      simp (disch := omega) only [le_n]
      by_cases e : k = cnt σ t m
      · rw [if_pos (by omega), mu16]
        obtain ⟨v, v1, v2, v3⟩ := k2 1000 0 (by omega) (by omega) (fun j hj => absurd hj (by omega))
        exact ⟨v, v1, v2, v3.trans ⟨fun q => ⟨fun j hj => hp j (by omega), q⟩, fun q => q.2⟩⟩
      · rw [if_neg (by omega), q_imp _ _ hm (by omega), bnd_s, q_imp _ _ hm (by omega), bnd_s]
        by_cases h : σ.1 27 t (m * 5 + k) = σ.1 27 t' (m * 5 + k)
        · rw [if_pos h, nI_1]
          exact ih (k + 1) (by omega) (by omega) (fun j hj => by
            by_cases e2 : j = k
            · rw [e2]; exact h
            · exact hp j (by omega))
        · rw [if_neg h]
          exact ⟨0, rfl, Or.inl rfl, fun q => absurd rfl q, fun q => absurd (q.1 k (by omega)) h⟩
  unfold m_X8_isSame SAME
  rw [chk_n (by omega) (by omega), chk_n (by omega) (by omega), cl_nI (by omega)]
  by_cases h : σ.1 28 t m = σ.1 28 t' m
  · rw [if_pos h]
    obtain ⟨v, v1, v2, v3⟩ := k1 1000 0 (by omega) (by omega) (fun j hj => absurd hj (by omega))
    exact ⟨v, v1, v2, v3.trans ⟨fun q => ⟨h, q⟩, fun q => q.2⟩⟩
  · rw [if_neg h]
    exact ⟨0, rfl, Or.inl rfl, fun q => absurd rfl q, fun q => absurd q.1 h⟩
