/-! WORKS: answers, what is noted -/
def LQ (σ : Sg) (w m : Nat) : Nat := (σ.2.2 0 w m).getD 0
def LOK (σ : Sg) (w : Nat) : Prop := ∀ m, m < 8 → ∃ q, σ.2.2 0 w m = some q ∧ q < 30
theorem LOK.q {σ : Sg} {w m : Nat} (h : LOK σ w) (hm : m < 8) : σ.2.2 0 w m = some (LQ σ w m) ∧ LQ σ w m < 30 := by
  obtain ⟨q, e, hq⟩ := h m hm
  unfold LQ
  rw [e]
  exact ⟨rfl, hq⟩
/-- the answers that the states of a works give -/
def anW (σ : Sg) (w j : Nat) : Int64 := σ.2.1 1 (LQ σ w (j / 16)) j
def aToA (o : Nat → Int32) (an : Nat → Int64) (ring : Int32) (s : Nat) : Int64 := if o s < 0 then (o s).toInt64 else if bt ring ((o s).toNatClampNeg / 16) = true then (o s).toInt64 else an (o s).toNatClampNeg
abbrev aToS (σ : Sg) (w : Nat) (ring : Int32) (s : Nat) : Int64 := aToA (σ.1 6 0) (anW σ w) ring s
/-- what stands outside is a slot, or nothing, or a clash -/
def OSL (σ : Sg) : Prop := ∀ s, s < 128 → SL2 (σ.1 6 0 s)
theorem lenP0 (w : Nat) : lenP 0 w = 8 := rfl
theorem q_answerTo {σ : Sg} {w s : Nat} (ring : Int32) (hL : LOK σ w) (hO : OSL σ) (hs : s < 128) : m_X9_answerTo σ w (nI s) ring = some (aToS σ w ring s) := by
  unfold m_X9_answerTo aToS aToA
  rw [chk_n (by omega) (by omega), cl_nI (by omega)]
  rcases hO s hs with h | h | ⟨j, hj, h⟩
  · rw [h, if_pos (by decide), if_pos (by decide)]
  · rw [h, if_pos (by decide), if_pos (by decide)]
  · rw [h, if_neg (by rw [ltz (by omega)]; exact id), if_neg (by rw [ltz (by omega)]; exact id), dv16 (by omega), q_has _ _ (by omega), bnd_s, cl_nI (a := j) (by omega), ite_01]
    by_cases hb : bt ring (j / 16) = true
    · rw [if_pos hb, if_pos hb]
    · rw [if_neg hb, if_neg hb, lenP0, chk_n (by omega) (by omega), cl_nI (a := j / 16) (by omega), (hL.q (by omega)).1, bnd_s, chk_e (by rw [decide_eq_true_eq]; exact (hL.q (by omega)).2), chk_n (by omega) (by omega)]
      rfl
/-- what a module looks for -/
def wtB (σ : Sg) (m s : Nat) : Bool := bt (σ.1 8 0 (m * 8 + s / 16)) (s % 16)
theorem q_wanted {σ : Sg} {m s : Nat} (hm : m < 8) (hs : s < 128) : m_X4_isWanted σ (nI m) (nI s) = some (if wtB σ m s = true then 1 else 0) := by
  unfold m_X4_isWanted wtB
  rw [dv16 (by omega), ix8, chk_n (by omega) (by omega), cl_nI (by omega), show nI s - nI (s / 16) * 16 = nI (s % 16) by rw [mu16, pk_sub (by omega)]; congr 1; omega]
  by_cases h : bt (σ.1 8 0 (m * 8 + s / 16)) (s % 16) = true
  · rw [if_pos ((bt_test (by omega)).mpr h), if_pos h]
  · rw [if_neg (fun q => h ((bt_test (by omega)).mp q)), if_neg h]
/-- wanted by a module of the ring, of the first n -/
def wtR (σ : Sg) (ring : Int32) : Nat → Nat → Bool
  | 0, _ => false
  | n + 1, s => wtR σ ring n s || (bt ring n && wtB σ n s)
theorem wtR_t {σ : Sg} {ring : Int32} {s : Nat} : ∀ n, wtR σ ring n s = true ↔ ∃ m, m < n ∧ bt ring m = true ∧ wtB σ m s = true
  | 0 => ⟨(fun h => by cases h), fun ⟨m, h, _⟩ => absurd h (by omega)⟩
  | n + 1 => by
    rw [wtR, Bool.or_eq_true, Bool.and_eq_true, wtR_t n]
    constructor
    · rintro (⟨m, a, b, c⟩ | ⟨b, c⟩)
      · exact ⟨m, by omega, b, c⟩
      · exact ⟨n, by omega, b, c⟩
    · rintro ⟨m, a, b, c⟩
      by_cases e : m = n
      · subst e; exact Or.inr ⟨b, c⟩
      · exact Or.inl ⟨m, by omega, b, c⟩
/-- a result's notes alone -/
def NF (r : Nat) (σ σ' : Sg) : Prop := σ'.1 = σ.1 ∧ (∀ c o, ¬ (c = 0 ∧ o = r) → σ'.2.1 c o = σ.2.1 c o) ∧ σ'.2.2 = σ.2.2
theorem aToS_c {σ σ' : Sg} {w : Nat} {ring : Int32} {s r : Nat} (h : NF r σ σ') : aToS σ' w ring s = aToS σ w ring s := by
  unfold aToS aToA anW LQ
  rw [h.1, h.2.2, h.2.1 1 _ (by omega)]
theorem s_note {σ0 : Sg} {w r : Nat} {ring : Int32} (hL : LOK σ0 w) (hO : OSL σ0) (hr : σ0.1 30 r 0 = ring) : ok (fun σ' => NF r σ0 σ' ∧ ∀ s, s < 128 → σ'.2.1 0 r s = if wtR σ0 ring 8 s = true then aToS σ0 w ring s else σ0.2.1 0 r s) (m_X9_noteAnswers σ0 w r) := by
  have k1 : ∀ (m : Nat) (k2 : Sg → Int32 → Option Sg), m < 8 → (∀ σ', (NF r σ0 σ' ∧ ∀ s, s < 128 → σ'.2.1 0 r s = if wtR σ0 ring (m + 1) s = true then aToS σ0 w ring s else σ0.2.1 0 r s) → ok (fun σ' => NF r σ0 σ' ∧ ∀ s, s < 128 → σ'.2.1 0 r s = if wtR σ0 ring 8 s = true then aToS σ0 w ring s else σ0.2.1 0 r s) (k2 σ' (nI (m + 1)))) →
      ∀ n x σ', x ≤ 128 → 128 - x < n → (NF r σ0 σ' ∧ ∀ s, s < 128 → σ'.2.1 0 r s = if (if s < x then wtR σ0 ring (m + 1) s else wtR σ0 ring m s) = true then aToS σ0 w ring s else σ0.2.1 0 r s) →
      ok (fun σ' => NF r σ0 σ' ∧ ∀ s, s < 128 → σ'.2.1 0 r s = if wtR σ0 ring 8 s = true then aToS σ0 w ring s else σ0.2.1 0 r s) (m_X9_noteAnswers_10 w r k2 n σ' (nI m) (nI x)) := by
    intro m k2 hm hk n
    induction n with
    | zero => intro x σ' _ h; omega
    | succ n ih =>
      intro x σ' hx hn hI
      obtain ⟨hF, hN⟩ := hI
      rw [m_X9_noteAnswers_10]
      by_cases e : x = 128
      · subst e
        rw [if_pos (by decide), nI_1]
        refine hk σ' ⟨hF, fun s hs => ?_⟩
        rw [hN s hs, if_pos hs]
      · rw [if_neg (by rw [le_128 (by omega)]; omega), hF.1, hr, q_has _ _ (by omega), bnd_s, ite_01]
        by_cases hb : bt ring m = true
        · rw [if_pos hb, q_wanted hm (by omega), bnd_s, ite_01]
          have hw0 : wtB σ' m x = wtB σ0 m x := by unfold wtB; rw [hF.1]
          rw [hw0]
          by_cases hw : wtB σ0 m x = true
          · rw [if_pos hw, q_answerTo ring (fun m hm => by rw [hF.2.2]; exact hL m hm) (fun s hs => by rw [hF.1]; exact hO s hs) (by omega), bnd_s, chk_n (by omega) (by omega), st_s, cl_nI (by omega), nI_1]
            refine ih (x + 1) _ (by omega) (by omega) ⟨⟨hF.1, fun c o q => by rw [wJ_co _ _ _ _ _ q, hF.2.1 c o q], hF.2.2⟩, fun s hs => ?_⟩
            rw [wJ_1]
            by_cases e2 : s = x
            · subst e2
              rw [if_pos ⟨rfl, rfl, rfl⟩, if_pos (show s < s + 1 by omega), if_pos ((wtR_t _).mpr ⟨m, by omega, hb, hw⟩), aToS_c hF]
            · rw [if_neg (fun q => e2 q.2.2), hN s hs]
              by_cases h3 : s < x
              · rw [if_pos h3, if_pos (show s < x + 1 by omega)]
              · rw [if_neg h3, if_neg (show ¬ s < x + 1 by omega)]
          · rw [if_neg hw, nI_1]
            refine ih (x + 1) _ (by omega) (by omega) ⟨hF, fun s hs => ?_⟩
            rw [hN s hs]
            by_cases e2 : s = x
            · subst e2
              rw [if_neg (Nat.lt_irrefl s), if_pos (show s < s + 1 by omega), show wtR σ0 ring (m + 1) s = wtR σ0 ring m s by rw [wtR, (by simpa using hw : wtB σ0 m s = false)]; simp]
            · by_cases h3 : s < x
              · rw [if_pos h3, if_pos (show s < x + 1 by omega)]
              · rw [if_neg h3, if_neg (show ¬ s < x + 1 by omega)]
        · rw [if_neg hb, nI_1]
          refine hk σ' ⟨hF, fun s hs => ?_⟩
          have e3 : wtR σ0 ring (m + 1) s = wtR σ0 ring m s := by rw [wtR, (by simpa using hb : bt ring m = false)]; simp
          rw [hN s hs, e3]
          split <;> rfl
  have k2 : ∀ n m σ', m ≤ 8 → 8 - m < n → (NF r σ0 σ' ∧ ∀ s, s < 128 → σ'.2.1 0 r s = if wtR σ0 ring m s = true then aToS σ0 w ring s else σ0.2.1 0 r s) →
      ok (fun σ' => NF r σ0 σ' ∧ ∀ s, s < 128 → σ'.2.1 0 r s = if wtR σ0 ring 8 s = true then aToS σ0 w ring s else σ0.2.1 0 r s) (m_X9_noteAnswers_2 w r n σ' (nI m)) := by
    intro n
    induction n with
    | zero => intro m σ' _ h; omega
    | succ n ih =>
      intro m σ' hm hn hI
      rw [m_X9_noteAnswers_2]
      by_cases e : m = 8
      · subst e
        rw [if_pos (by decide)]
        exact ok_r hI
      · rw [if_neg (by rw [le_8 (by omega)]; omega)]
        refine k1 m _ (by omega) (fun σ1 h1 => ih (m + 1) σ1 (by omega) (by omega) h1) 1000 0 σ' (by omega) (by omega) ⟨hI.1, fun s hs => ?_⟩
        rw [hI.2 s hs, if_neg (by omega : ¬ s < 0)]
  unfold m_X9_noteAnswers
  show ok _ (m_X9_noteAnswers_2 w r 1000 σ0 (nI 0))
  exact k2 1000 0 σ0 (by omega) (by omega) ⟨⟨rfl, fun _ _ _ => rfl, rfl⟩, fun s hs => by rw [if_neg (by rw [wtR]; decide)]⟩
