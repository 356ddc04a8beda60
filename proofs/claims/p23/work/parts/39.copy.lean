/-! WORKS: a result begun; texts the same; answers; what is noted -/
/-- where a fresh result may change things: its own rows and its text -/
def BF (r : Nat) (σ σ' : Sg) : Prop :=
  (∀ c o, ¬ ((30 ≤ c ∧ c ≤ 36 ∧ o = r) ∨ (26 ≤ c ∧ c ≤ 29 ∧ o = r + 2)) → σ'.1 c o = σ.1 c o) ∧ (∀ c o, ¬ ((c = 0 ∨ c = 1) ∧ o = r) → σ'.2.1 c o = σ.2.1 c o) ∧ σ'.2.2 = σ.2.2
theorem BF.tr {r : Nat} {a b c : Sg} (h1 : BF r a b) (h2 : BF r b c) : BF r a c := ⟨fun x o hx => (h2.1 x o hx).trans (h1.1 x o hx), fun x o hx => (h2.2.1 x o hx).trans (h1.2.1 x o hx), h2.2.2.trans h1.2.2⟩
theorem BF.w {r : Nat} (σ : Sg) {c o : Nat} (i : Nat) (v : Int32) (h : (30 ≤ c ∧ c ≤ 36 ∧ o = r) ∨ (26 ≤ c ∧ c ≤ 29 ∧ o = r + 2)) : BF r σ (wI σ c o i v) :=
  ⟨fun x y hx => wI_co σ c o i v (fun q => hx (by rw [q.1, q.2]; exact h)), fun _ _ _ => rfl, rfl⟩
theorem BF.row {r : Nat} (σ : Sg) {c o : Nat} (f : Nat → Int32) (h : (30 ≤ c ∧ c ≤ 36 ∧ o = r) ∨ (26 ≤ c ∧ c ≤ 29 ∧ o = r + 2)) : BF r σ (rowI σ c o f) :=
  ⟨fun x y hx => by rw [rowI_1, if_neg (fun q => hx (by rw [q.1, q.2]; exact h))], fun _ _ _ => rfl, rfl⟩
theorem BF.j {r : Nat} (σ : Sg) {c : Nat} (i : Nat) (v : Int64) (h : c = 0 ∨ c = 1) : BF r σ (wJ σ c r i v) :=
  ⟨fun _ _ _ => rfl, fun x y hx => wJ_co σ c r i v (fun q => hx ⟨by rw [q.1]; exact h, q.2⟩), rfl⟩
/-- a text copied -/
def TCP (σ σ' : Sg) (t t' : Nat) : Prop := (∀ j, j < 128 → σ'.1 26 t j = σ.1 26 t' j) ∧ (∀ j, j < 40 → σ'.1 27 t j = σ.1 27 t' j) ∧ (∀ j, j < 8 → σ'.1 28 t j = σ.1 28 t' j) ∧ σ'.1 29 t 0 = σ.1 29 t' 0
theorem q_copy {σ : Sg} {t t' : Nat} (ht : ¬ t = t') : ok (fun σ' => TCP σ σ' t t' ∧ (∀ c o, ¬ (26 ≤ c ∧ c ≤ 29 ∧ o = t) → σ'.1 c o = σ.1 c o) ∧ σ'.2 = σ.2) (m_X8_copy σ t t') := by
  unfold m_X8_copy
  simp only [st_s]
  have hcp : ∀ (f g : Nat → Int32) n j, j < n → va_cpy f g 0 0 n j = f j := fun f g n j hj => by rw [pk_cpy_in (by omega) (by omega)]; congr 1; omega
  refine ok_r ⟨⟨fun j hj => ?_, fun j hj => ?_, fun j hj => ?_, ?_⟩, fun c o hx => ?_, rfl⟩
  · rw [wI_ne _ _ _ _ _ _ (by decide), rowI_1, if_neg (by omega), rowI_1, if_neg (by omega), rowI_1, if_pos ⟨rfl, rfl⟩, hcp _ _ _ _ hj]
  · rw [wI_ne _ _ _ _ _ _ (by decide), rowI_1, if_neg (by omega), rowI_1, if_pos ⟨rfl, rfl⟩, hcp _ _ _ _ hj, rowI_1, if_neg (by omega)]
  · rw [wI_ne _ _ _ _ _ _ (by decide), rowI_1, if_pos ⟨rfl, rfl⟩, hcp _ _ _ _ hj, rowI_1, if_neg (by omega), rowI_1, if_neg (by omega)]
  · rw [wI_s, rowI_1, if_neg (by omega), rowI_1, if_neg (by omega), rowI_1, if_neg (by omega)]
  · rw [wI_co _ _ _ _ _ (by omega), rowI_1, if_neg (by omega), rowI_1, if_neg (by omega), rowI_1, if_neg (by omega)]
theorem wJ_row (σ : Sg) (c o i : Nat) (f : Nat → Int64) (v : Int64) : wJ (rowJ σ c o f) c o i v = rowJ σ c o (vp_updL f i v) := by
  unfold wJ rowJ
  refine Prod.ext rfl (Prod.ext ?_ rfl)
  funext c' o'
  dsimp only
  by_cases h : c' = c ∧ o' = o
  · simp [h]
  · simp [h]
theorem rowJ_self (σ : Sg) (c o : Nat) : rowJ σ c o (σ.2.1 c o) = σ := by
  unfold rowJ
  refine Prod.ext rfl (Prod.ext ?_ rfl)
  funext c' o'
  dsimp only
  split
  · rename_i h; rw [h.1, h.2]
  · rfl
theorem q_fillJ (σ : Sg) (c o : Nat) {n : Nat} (x : Int64) (hn : n < 1000) : m_J7_fill_d0a16 σ c o n x = some (rowJ σ c o (fun j => if j < n then x else σ.2.1 c o j)) := by
  have key : ∀ k i, i ≤ n → n - i < k → m_J7_fill_d0a16_6 c o n x k (rowJ σ c o (fun j => if j < i then x else σ.2.1 c o j)) (nI i) (nI n) = some (rowJ σ c o (fun j => if j < n then x else σ.2.1 c o j)) := by
    intro k
    induction k with
    | zero => intro i _ h; omega
    | succ k ih =>
      intro i hi hk
      rw [m_J7_fill_d0a16_6]
      by_cases h : i = n
      · subst h
        rw [if_pos (by rw [nI_leI (by omega) (by omega)]; omega)]
      · rw [if_neg (by rw [nI_leI (by omega) (by omega)]; omega), chk_e (inb_nI (by omega) (by omega))]
        unfold st
        rw [cl_nI (by omega), wJ_row, nI_1]
        have e : vp_updL (fun j => if j < i then x else σ.2.1 c o j) i x = fun j => if j < i + 1 then x else σ.2.1 c o j := by
          funext j
          unfold vp_updL
          dsimp only
          by_cases h1 : j = i
          · subst h1; simp
          · rw [if_neg h1]
            by_cases h2 : j < i
            · rw [if_pos h2, if_pos (by omega)]
            · rw [if_neg h2, if_neg (by omega)]
        rw [e]
        exact ih (i + 1) (by omega) (by omega)
  have h0 := key 1000 0 (by omega) (by omega)
  have e0 : rowJ σ c o (fun j => if j < 0 then x else σ.2.1 c o j) = σ := by
    have : (fun j => if j < 0 then x else σ.2.1 c o j) = σ.2.1 c o := by funext j; simp
    rw [this, rowJ_self]
  rw [e0] at h0
  exact h0
