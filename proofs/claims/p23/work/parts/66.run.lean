/-! RUN -/
def fld (σ : Sg) (c s : Nat) : Int32 := σ.1 c (LQ σ 0 (s / 16)) s
/-- what a run from open calls gives -/
def psh (x : Int32) (d : Nat) (t : List (Nat × Nat)) : List (Nat × Nat) := if x = -1 then t else (d, x.toNatClampNeg) :: t
def vL (F N A B : Nat → Int32) : Nat → List (Nat × Nat) → Int32 → Int32
  | _, [], s => s
  | 0, _ :: _, _ => -1000000
  | f + 1, (d, x) :: t, s => if 30 < d ∨ ¬ F x = 0 then -1000000 else vL F N A B f (psh (A x) (d + 1) (psh (B x) (d + 1) t)) (s + N x)
def runV (σ : Sg) (s : Nat) : Int32 := vL (fld σ 31) (fld σ 34) (fld σ 35) (fld σ 36) 401 [(0, s)] 0
def SOKL (L : List (Nat × Nat)) : Prop := ∀ e, e ∈ L → e.1 ≤ 31 ∧ e.2 < 128
theorem psh_ok {x : Int32} {d : Nat} {t : List (Nat × Nat)} (hx : SL1 x) (hd : d ≤ 31) (ht : SOKL t) : SOKL (psh x d t) := by
  unfold psh
  rcases hx with h | ⟨j, hj, h⟩
  · rw [if_pos h]; exact ht
  · rw [h, if_neg (nI_ne_m1 (by omega)), cl_nI (by omega)]
    intro e he
    rcases List.mem_cons.mp he with q | q
    · rw [q]; exact ⟨hd, hj⟩
    · exact ht e q
theorem psh_len (x : Int32) (d : Nat) (t : List (Nat × Nat)) : (psh x d t).length ≤ t.length + 1 := by
  unfold psh
  split
  · omega
  · rw [List.length_cons]; omega
theorem vL_c {F N A B F' N' A' B' : Nat → Int32} (hF : ∀ s, s < 128 → F s = F' s) (hN : ∀ s, s < 128 → N s = N' s) (hA : ∀ s, s < 128 → A s = A' s) (hB : ∀ s, s < 128 → B s = B' s) (sA : ∀ s, s < 128 → SL1 (A s)) (sB : ∀ s, s < 128 → SL1 (B s)) : ∀ f L s, SOKL L → vL F N A B f L s = vL F' N' A' B' f L s
  | _, [], _, _ => by rw [vL, vL]
  | 0, _ :: _, _, _ => rfl
  | f + 1, (d, x) :: t, s, h => by
    have hx : x < 128 := (h (d, x) (List.mem_cons_self ..)).2
    have ht : SOKL t := fun e he => h e (List.mem_cons_of_mem _ he)
    rw [vL, vL, ← hF x hx, ← hN x hx, ← hA x hx, ← hB x hx]
    by_cases hc : 30 < d ∨ ¬ F x = 0
    · rw [if_pos hc, if_pos hc]
    · rw [if_neg hc, if_neg hc]
      exact vL_c hF hN hA hB sA sB f _ _ (psh_ok (sA x hx) (by omega) (psh_ok (sB x hx) (by omega) ht))
/-- the open calls as they lie -/
def STK (σ : Sg) : List (Nat × Nat) → Prop
  | [] => True
  | (d, s) :: t => σ.1 0 0 t.length = nI (d * 128 + s) ∧ STK σ t
def VFR (σ σ' : Sg) : Prop := (∀ c o, ¬ (c = 0 ∧ o = 0) → σ'.1 c o = σ.1 c o) ∧ σ'.2 = σ.2
theorem VFR.tr {a b c : Sg} (h1 : VFR a b) (h2 : VFR b c) : VFR a c := ⟨fun x o p => (h2.1 x o p).trans (h1.1 x o p), h2.2.trans h1.2⟩
theorem VFR.mfr {σ σ' : Sg} (h : VFR σ σ') : MFR σ σ' := ⟨fun c o _ _ _ h4 => h.1 c o h4, fun c o _ => by rw [h.2], fun c o _ => by rw [h.2]⟩
theorem VFR.base {σ σ' : Sg} {mc : Nat} (h : VFR σ σ') (hB : BASE σ mc) : BASE σ' mc := hB.mfr h.mfr (fun r hr i hi => by
  obtain ⟨x1, x2⟩ := hB.2.2.2.1 r hr i hi
  have e : ∀ c, 31 ≤ c → c ≤ 36 → own σ r c i = own σ' r c i := fun c h1 h2 => by unfold own; rw [h.1 c r (by omega)]
  rw [h.2]
  exact ⟨x1.trans (ansOf_c e), SFA_c e x2⟩) (by rw [h.1 19 1 (by omega)]; exact hB.2.2.2.2.2.2.1)
theorem VFR.fl {σ σ' : Sg} (h : VFR σ σ') (c : Nat) (hc : 31 ≤ c) : fld σ' c = fld σ c := by
  funext s
  show σ'.1 c (LQ σ' 0 (s / 16)) s = σ.1 c (LQ σ 0 (s / 16)) s
  unfold LQ
  rw [h.2, h.1 c _ (by omega)]
theorem STK.w {σ : Sg} {v : Int32} {i : Nat} : ∀ L : List (Nat × Nat), L.length ≤ i → STK σ L → STK (wI σ 0 0 i v) L
  | [], _, _ => trivial
  | (d, s) :: t, h, hS => by
    rw [List.length_cons] at h
    refine ⟨?_, STK.w t (by omega) hS.2⟩
    rw [wI_1, if_neg (by omega)]
    exact hS.1
theorem q_state {σ : Sg} {s : Nat} (hL : LOK σ 0) (hs : s < 128) : m_X9_stateOf σ 0 (nI s) = some (LQ σ 0 (s / 16)) ∧ LQ σ 0 (s / 16) < 30 := by
  have h := hL.q (show s / 16 < 8 by omega)
  refine ⟨?_, h.2⟩
  unfold m_X9_stateOf
  rw [dv16 (by omega), lenP0, chk_n (by omega) (by omega), cl_nI (by omega), h.1, bnd_s, chk_e (by rw [decide_eq_true_eq]; exact h.2)]
/-- one call opened -/
theorem s_open {σ0 σ : Sg} {L : List (Nat × Nat)} {x : Int32} {d : Nat} (hF : VFR σ0 σ) (hS : STK σ L) (hl : L.length < 800) (hx : SL1 x) (hd : d ≤ 31) : ok (fun q => VFR σ0 q.1 ∧ STK q.1 (psh x d L) ∧ q.2 = nI (psh x d L).length) (m_X10_openCall σ (nI L.length) x (nI d)) := by
  unfold m_X10_openCall psh
  rcases hx with h | ⟨j, hj, h⟩
  · rw [if_pos h, if_pos h]
    exact ok_r ⟨hF, hS, rfl⟩
  · have hne : ¬ x = -1 := by rw [h]; exact nI_ne_m1 (by omega)
    rw [if_neg hne, if_neg hne, if_pos (by rw [show (800 : Int32) = nI 800 from rfl, lt_n (by omega) (by omega)]; exact hl), chk_n (by omega) (by omega), st_s, cl_nI (by omega), h, show (128 : Int32) = nI 128 from rfl, pk_mul, nI_add, cl_nI (by omega), nI_1]
    refine ok_r ⟨hF.tr ⟨fun c o hc => wI_co _ _ _ _ _ hc, rfl⟩, ⟨wI_s _ _ _ _ _, STK.w L (Nat.le_refl _) hS⟩, rfl⟩
theorem s_value {σ0 : Sg} {s0 : Nat} (hL : LOK σ0 0) (hSF : SF σ0) (h0 : s0 < 128) : ok (fun q => VFR σ0 q.1 ∧ q.2 = runV σ0 s0) (m_X10_valueOf σ0 (nI s0)) := by
  have hA : ∀ s, s < 128 → SL1 (fld σ0 35 s) ∧ SL1 (fld σ0 36 s) := fun s hs => by
    obtain ⟨_, h⟩ := hSF _ (hL.q (show s / 16 < 8 by omega)).2 s hs
    exact ⟨h.2.2.2.2.2.1, h.2.2.2.2.2.2.1⟩
  have key : ∀ f L n σ sum, f ≤ 401 → L.length + f ≤ 402 → f < n → VFR σ0 σ → STK σ L → SOKL L → ok (fun q => VFR σ0 q.1 ∧ q.2 = vL (fld σ0 31) (fld σ0 34) (fld σ0 35) (fld σ0 36) f L sum) (m_X10_valueOf_14 (nI s0) n σ sum (nI L.length) (nI (401 - f))) := by
    intro f
    induction f with
    | zero =>
      intro L n σ sum _ hl hn hF hS hK
      obtain ⟨n, rfl⟩ : ∃ z, n = z + 1 := ⟨n - 1, by omega⟩
      rw [m_X10_valueOf_14, if_pos (by rw [show (400 : Int32) = nI 400 from rfl, lt_n (by omega) (by omega)]; omega)]
      match L with
      | [] => rw [if_pos (by decide)]; exact ok_r ⟨hF, by rw [vL]⟩
      | e :: t =>
        rw [if_neg (by rw [le0 (by omega)]; simp)]
        exact ok_r ⟨hF, by rw [vL]⟩
    | succ f ih =>
      intro L n σ sum hf hl hn hF hS hK
      obtain ⟨n, rfl⟩ : ∃ z, n = z + 1 := ⟨n - 1, by omega⟩
      rw [m_X10_valueOf_14, if_neg (by rw [show (400 : Int32) = nI 400 from rfl, lt_n (by omega) (by omega)]; omega)]
      match L, hl, hS, hK with
      | [], _, _, _ => rw [if_pos (by decide), if_pos (by decide)]; exact ok_r ⟨hF, by rw [vL]⟩
      | (d, x) :: t, hl, hS, hK =>
        have hlen : ((d, x) :: t).length = t.length + 1 := List.length_cons ..
        rw [hlen] at hl
        obtain ⟨hd, hx⟩ := hK (d, x) (List.mem_cons_self ..)
        have hx : x < 128 := hx
        have hd : d ≤ 31 := hd
        have hKt : SOKL t := fun e he => hK e (List.mem_cons_of_mem _ he)
        have e0 : σ.1 0 0 t.length = nI (d * 128 + x) := hS.1
        have eq1 : nI (d * 128 + x) / (128 : Int32) = nI d := by
          rw [show (128 : Int32) = nI 128 from rfl, pk_div (by omega) (by omega) (by omega)]
          congr 1; omega
        have eq2 : nI (d * 128 + x) - nI d * (128 : Int32) = nI x := by
          rw [show (128 : Int32) = nI 128 from rfl, pk_mul, pk_sub (by omega)]
          congr 1; omega
        have hLs : LOK σ 0 := fun m hm => by rw [hF.2]; exact hL m hm
        obtain ⟨hq, hq30⟩ := q_state hLs hx
        have hfl : ∀ c, 31 ≤ c → σ.1 c (LQ σ 0 (x / 16)) x = fld σ0 c x := fun c hc => by rw [← hF.fl c hc]; rfl
        rw [hlen, if_neg (by rw [le0 (by omega)]; omega), pm1 (by omega), show t.length + 1 - 1 = t.length by omega, chk_n (by omega) (by omega), chk_n (by omega) (by omega), cl_nI (a := t.length) (by omega), e0, eq1, eq2, hq, bnd_s, chk_e (by rw [decide_eq_true_eq]; exact hq30)]
        by_cases h30 : 30 < d
        · rw [if_pos (by rw [show (30 : Int32) = nI 30 from rfl, lt_n (by omega) (by omega)]; exact h30), vL, if_pos (Or.inl h30)]
          exact ok_r ⟨hF, rfl⟩
        · rw [if_neg (by rw [show (30 : Int32) = nI 30 from rfl, lt_n (by omega) (by omega)]; exact h30), chk_n (by omega) (by omega), cl_nI (a := x) (by omega), hfl 31 (by omega)]
          by_cases hz : fld σ0 31 x = 0
          · rw [if_pos hz, vL, if_neg (by rintro (z | z); exact h30 z; exact z hz), chk_n (by omega) (by omega), chk_n (by omega) (by omega), hfl 36 (by omega), hfl 34 (by omega), nI_1]
            refine ok_b2 (s_open hF hS.2 (by omega) (hA x hx).2 (show d + 1 ≤ 31 by omega)) (fun σ1 v1 h1 => ?_)
            obtain ⟨a1, a2, a3⟩ := h1
            have a3' : v1 = nI (psh (fld σ0 36 x) (d + 1) t).length := a3
            have e35 : σ1.1 35 (LQ σ 0 (x / 16)) x = fld σ0 35 x := by
              rw [← a1.fl 35 (by omega)]
              unfold fld LQ
              rw [a1.2, hF.2]
            have l1 := psh_len (fld σ0 36 x) (d + 1) t
            have k1 := psh_ok (hA x hx).2 (show d + 1 ≤ 31 by omega) hKt
            rw [chk_n (by omega) (by omega), a3', e35]
            refine ok_b2 (s_open a1 a2 (by omega) (hA x hx).1 (show d + 1 ≤ 31 by omega)) (fun σ2 v2 h2 => ?_)
            obtain ⟨b1, b2, b3⟩ := h2
            have b3' : v2 = nI (psh (fld σ0 35 x) (d + 1) (psh (fld σ0 36 x) (d + 1) t)).length := b3
            have l2 := psh_len (fld σ0 35 x) (d + 1) (psh (fld σ0 36 x) (d + 1) t)
            rw [b3', nI_1, show 401 - (f + 1) + 1 = 401 - f by omega]
            exact ih _ n σ2 _ (by omega) (by omega) (by omega) b1 b2 (psh_ok (hA x hx).1 (show d + 1 ≤ 31 by omega) k1)
          · rw [if_neg hz, vL, if_pos (Or.inr hz)]
            exact ok_r ⟨hF, rfl⟩
  unfold m_X10_valueOf
  show ok _ (chk (inb (nI 0) 800) (st (wI σ0 0 0 (nI 0).toNatClampNeg (nI s0)) (fun σ102 => m_X10_valueOf_14 (nI s0) 1000 σ102 0 (nI 1) (nI 0))))
  rw [chk_n (by omega) (by omega), cl_nI (by omega), st_s]
  exact key 401 [(0, s0)] 1000 _ 0 (by omega) (by simp) (by omega) ⟨fun c o hc => wI_co _ _ _ _ _ hc, rfl⟩ ⟨by rw [List.length_nil, wI_s]; congr 1; omega, trivial⟩ (fun e he => by
    rw [List.mem_singleton] at he
    rw [he]; exact ⟨Nat.zero_le _, h0⟩)
theorem s_run {σ : Sg} {mc m n : Nat} (hB : BASE σ mc) (hm : m < mc) (hn : n < 16) : ok (fun q => VFR σ q.1 ∧ q.2 = runV σ (m * 16 + n)) (m_X10_run σ (nI m) (nI n)) := by
  have := hB.1.2.1
  unfold m_X10_run
  rw [q_chkM hB.2.1 hm, bnd_s, q_w15 σ (by omega), bnd_s, ix16]
  refine ok_b2 (s_value hB.2.2.2.2.1.1 hB.2.2.2.1 (show m * 16 + n < 128 by omega)) (fun σ1 v h => ok_r h)
