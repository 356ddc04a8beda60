/-! ASKING: what is answered stays, where trials and runs alone have been -/
theorem inb_lt {x : Int32} {n : Nat} (h : inb x n = true) : x.toNatClampNeg < n := Nat.not_le.mp fun q => (inb_vp h) (Or.inr q)
theorem bnd_g {α β : Type} {a : Option α} {k k' : α → Option β} (h : ∀ x, a = some x → k x = k' x) : bnd a k = bnd a k' := by
  cases a with
  | none => rfl
  | some x => exact h x rfl
theorem chk_g {α : Type} {b : Bool} {k k' : Option α} (h : b = true → k = k') : chk b k = chk b k' := by
  cases b
  · rfl
  · exact h rfl
theorem ite_g {α : Type} {c : Prop} [Decidable c] {a b a' b' : α} (h1 : c → a = a') (h2 : ¬ c → b = b') : (if c then a else b) = if c then a' else b' := by
  by_cases h : c
  · rw [if_pos h, if_pos h]; exact h1 h
  · rw [if_neg h, if_neg h]; exact h2 h
section EQS
variable {σ τ : Sg}
theorem lk_lt (hI : IW σ 0) {x : Int32} {r : Nat} (hi : inb x (lenP 0 0) = true) (hr : σ.2.2 0 0 x.toNatClampNeg = some r) : r < 20 := by
  have h8 : x.toNatClampNeg < 8 := inb_lt hi
  have := hI.2.1 _ h8
  unfold LQ at this
  rw [hr] at this
  have e : (some r).getD 0 = r := rfl
  omega
theorem MFR.la (h : MFR σ τ) : τ.2.2 0 0 = σ.2.2 0 0 := h.2.2 0 0 (by omega)
theorem MFR.t0 (h : MFR σ τ) {c : Nat} (hc : 26 ≤ c ∧ c ≤ 29) : τ.1 c 0 = σ.1 c 0 := h.t hc (by omega) (by omega)
theorem MFR.tr2 (h : MFR σ τ) {c r : Nat} (hc : 26 ≤ c ∧ c ≤ 29) (hr : r < 20) : τ.1 c (r + 2) = σ.1 c (r + 2) := h.t hc (by omega) (by omega)
theorem e_small (x : Int32) : m_X6_smallestOf τ x = m_X6_smallestOf σ x := by
  have key : ∀ n y, m_X6_smallestOf_2 τ x n y = m_X6_smallestOf_2 σ x n y := by
    intro n
    induction n with
    | zero => intro y; rfl
    | succ n ih =>
      intro y
      rw [m_X6_smallestOf_2, m_X6_smallestOf_2]
      refine ite_g (fun _ => rfl) (fun _ => ?_)
      show bnd (m_X6_has σ x y) _ = bnd (m_X6_has σ x y) _
      exact bnd_g (fun r _ => ite_g (fun _ => ih _) (fun _ => rfl))
  exact key 1000 0
theorem e_unb (h : MFR σ τ) (hI : IW σ 0) (x : Int32) : m_X9_firstUnbuilt τ 0 x = m_X9_firstUnbuilt σ 0 x := by
  have key : ∀ n y, m_X9_firstUnbuilt_2 τ 0 x n y = m_X9_firstUnbuilt_2 σ 0 x n y := by
    intro n
    induction n with
    | zero => intro y; rfl
    | succ n ih =>
      intro y
      rw [m_X9_firstUnbuilt_2, m_X9_firstUnbuilt_2]
      refine ite_g (fun _ => rfl) (fun _ => ?_)
      show bnd (m_X6_has σ x y) _ = bnd (m_X6_has σ x y) _
      refine bnd_g (fun r _ => ite_g (fun _ => ih _) (fun _ => chk_g (fun hi => ?_)))
      rw [h.la]
      refine bnd_g (fun r5 h5 => chk_g (fun _ => ?_))
      rw [h.r (c := 30) (by omega) (by have := lk_lt hI hi h5; omega), ih]
  exact key 1000 0
theorem e_oth (h : MFR σ τ) (hI : IW σ 0) (x : Int32) : m_X9_wasInOtherRing τ 0 x = m_X9_wasInOtherRing σ 0 x := by
  have key : ∀ n y, m_X9_wasInOtherRing_2 τ 0 x n y = m_X9_wasInOtherRing_2 σ 0 x n y := by
    intro n
    induction n with
    | zero => intro y; rfl
    | succ n ih =>
      intro y
      rw [m_X9_wasInOtherRing_2, m_X9_wasInOtherRing_2]
      refine ite_g (fun _ => rfl) (fun _ => ?_)
      show bnd (m_X6_has σ x y) _ = bnd (m_X6_has σ x y) _
      refine bnd_g (fun r _ => ite_g (fun _ => ih _) (fun _ => chk_g (fun hi => ?_)))
      rw [h.la]
      refine bnd_g (fun r5 h5 => chk_g (fun _ => ?_))
      rw [h.r (c := 30) (by omega) (by have := lk_lt hI hi h5; omega), ih]
  exact key 1000 0
theorem e_res (h : MFR σ τ) (x : Int32) : m_X9_resultOf τ 0 x = m_X9_resultOf σ 0 x := by
  unfold m_X9_resultOf
  rw [e_small (σ := σ) (τ := τ), h.la]
theorem res_lt (hI : IW σ 0) {x : Int32} {r : Nat} (h : m_X9_resultOf σ 0 x = some r) : r < 20 := by
  unfold m_X9_resultOf at h
  obtain ⟨y, _, h⟩ := bnd_some h
  by_cases hy : y = -1
  · rw [if_pos hy] at h; cases h; omega
  · rw [if_neg hy] at h
    obtain ⟨hi, h⟩ := chk_some h
    obtain ⟨r5, h5, h⟩ := bnd_some h
    obtain ⟨_, h⟩ := chk_some h
    cases h
    exact lk_lt hI hi h5
theorem e_imp {t : Nat} (h : τ.1 27 t = σ.1 27 t) (x y : Int32) : m_X8_importAt τ t x y = m_X8_importAt σ t x y := by
  unfold m_X8_importAt
  rw [h]
theorem e_isame {t u : Nat} (ht : ∀ c, 26 ≤ c → c ≤ 28 → τ.1 c t = σ.1 c t ∧ τ.1 c u = σ.1 c u) (x : Int32) : m_X8_isSame τ t u x = m_X8_isSame σ t u x := by
  have k57 : ∀ n y, m_X8_isSame_57 τ t u x n y = m_X8_isSame_57 σ t u x n y := by
    intro n
    induction n with
    | zero => intro y; rfl
    | succ n ih =>
      intro y
      rw [m_X8_isSame_57, m_X8_isSame_57, (ht 26 (by omega) (by omega)).1, (ht 26 (by omega) (by omega)).2, ih]
  have k19 : ∀ n y, m_X8_isSame_19 τ t u x n y = m_X8_isSame_19 σ t u x n y := by
    intro n
    induction n with
    | zero => intro y; rfl
    | succ n ih =>
      intro y
      rw [m_X8_isSame_19, m_X8_isSame_19, (ht 28 (by omega) (by omega)).1, k57, e_imp (ht 27 (by omega) (by omega)).1, e_imp (ht 27 (by omega) (by omega)).2, ih]
  unfold m_X8_isSame
  rw [k19, (ht 28 (by omega) (by omega)).1, (ht 28 (by omega) (by omega)).2]
theorem e_text (h : MFR σ τ) {r : Nat} (hr : r < 20) : m_X9_firstOtherText τ 0 r = m_X9_firstOtherText σ 0 r := by
  have key : ∀ n y, m_X9_firstOtherText_2 τ 0 r n y = m_X9_firstOtherText_2 σ 0 r n y := by
    intro n
    induction n with
    | zero => intro y; rfl
    | succ n ih =>
      intro y
      rw [m_X9_firstOtherText_2, m_X9_firstOtherText_2, h.r (c := 30) (by omega) (show r < 21 by omega), ih, e_isame (σ := σ) (τ := τ) (fun c h1 h2 => ⟨h.t0 ⟨h1, by omega⟩, h.tr2 ⟨h1, by omega⟩ hr⟩)]
      rfl
  exact key 1000 0
theorem e_ans (h : MFR σ τ) (hI : IW σ 0) (x y : Int32) : m_X9_answerTo τ 0 x y = m_X9_answerTo σ 0 x y := by
  unfold m_X9_answerTo
  rw [h.n (c := 6) (by omega), h.la]
  refine chk_g (fun _ => ite_g (fun _ => rfl) (fun _ => ?_))
  show bnd (m_X6_has σ y _) _ = bnd (m_X6_has σ y _) _
  refine bnd_g (fun r _ => ite_g (fun _ => chk_g (fun hi => bnd_g (fun r6 h6 => chk_g (fun _ => ?_)))) (fun _ => rfl))
  rw [h.j (c := 1) (by have := lk_lt hI hi h6; omega)]
theorem e_oans (h : MFR σ τ) (hI : IW σ 0) {r : Nat} (hr : r < 20) : m_X9_firstOtherAnswer τ 0 r = m_X9_firstOtherAnswer σ 0 r := by
  have key : ∀ n y, m_X9_firstOtherAnswer_2 τ 0 r n y = m_X9_firstOtherAnswer_2 σ 0 r n y := by
    intro n
    induction n with
    | zero => intro y; rfl
    | succ n ih =>
      intro y
      rw [m_X9_firstOtherAnswer_2, m_X9_firstOtherAnswer_2, h.r (c := 30) (by omega) (show r < 21 by omega), h.j (c := 0) (show r < 21 by omega), ih]
      simp only [e_ans h hI, ih]
  exact key 1000 0
theorem e_reason (h : MFR σ τ) (hI : IW σ 0) (x : Int32) : m_X9_reasonOf τ 0 x = m_X9_reasonOf σ 0 x := by
  unfold m_X9_reasonOf
  rw [e_unb h hI, e_oth h hI, e_res h]
  refine bnd_g (fun r _ => ite_g (fun _ => bnd_g (fun r5 _ => ite_g (fun _ => bnd_g (fun r8 h8 => chk_g (fun _ => ?_))) (fun _ => rfl))) (fun _ => rfl))
  have := res_lt hI h8
  rw [e_text h this, e_oans h hI this]
theorem e_culprit (h : MFR σ τ) (hI : IW σ 0) (x y : Int32) : m_X9_culpritOf τ 0 x y = m_X9_culpritOf σ 0 x y := by
  unfold m_X9_culpritOf
  rw [e_unb h hI, e_small (σ := σ) (τ := τ), e_res h]
  refine ite_g (fun _ => rfl) (fun _ => ite_g (fun _ => rfl) (fun _ => ite_g (fun _ => bnd_g (fun r8 h8 => chk_g (fun _ => ?_))) (fun _ => rfl)))
  rw [e_text h (res_lt hI h8)]
theorem e_want (h : MFR σ τ) (x : Int32) : m_X4_wantedBy τ x = m_X4_wantedBy σ x := by
  have key : ∀ n y z, m_X4_wantedBy_4 τ x n y z = m_X4_wantedBy_4 σ x n y z := by
    intro n
    induction n with
    | zero => intro y z; rfl
    | succ n ih =>
      intro y z
      rw [m_X4_wantedBy_4, m_X4_wantedBy_4, h.n (c := 8) (by omega)]
      refine ite_g (fun _ => rfl) (fun _ => chk_g (fun _ => ?_))
      have e : ∀ v, m_J6_bitCount_0f7a4 τ v = m_J6_bitCount_0f7a4 σ v := fun _ => rfl
      rw [e]
      exact bnd_g (fun r _ => ih _ _)
  exact key 1000 0 0
theorem e_decls (h : MFR σ τ) (x : Int32) : m_X8_declarationsOf τ 0 x = m_X8_declarationsOf σ 0 x := by
  have key : ∀ n y z, m_X8_declarationsOf_4 τ 0 x n y z = m_X8_declarationsOf_4 σ 0 x n y z := by
    intro n
    induction n with
    | zero => intro y z; rfl
    | succ n ih =>
      intro y z
      rw [m_X8_declarationsOf_4, m_X8_declarationsOf_4]
      refine ite_g (fun _ => rfl) (fun _ => ?_)
      have e : ∀ v, m_X8_isDeclared τ 0 v = m_X8_isDeclared σ 0 v := fun v => by unfold m_X8_isDeclared; rw [h.t0 (c := 26) (by omega)]
      rw [e]
      exact bnd_g (fun r _ => ite_g (fun _ => ih _ _) (fun _ => ih _ _))
  exact key 1000 0 0
theorem e_alld (h : MFR σ τ) : m_X8_allDeclarations τ 0 = m_X8_allDeclarations σ 0 := by
  have key : ∀ n y z, m_X8_allDeclarations_4 τ 0 n y z = m_X8_allDeclarations_4 σ 0 n y z := by
    intro n
    induction n with
    | zero => intro y z; rfl
    | succ n ih =>
      intro y z
      rw [m_X8_allDeclarations_4, m_X8_allDeclarations_4, h.t0 (c := 29) (by omega), e_decls h]
      exact ite_g (fun _ => rfl) (fun _ => bnd_g (fun r _ => ih _ _))
  exact key 1000 0 0
theorem e_alli (h : MFR σ τ) : m_X8_allImports τ 0 = m_X8_allImports σ 0 := by
  have key : ∀ n y z, m_X8_allImports_4 τ 0 n y z = m_X8_allImports_4 σ 0 n y z := by
    intro n
    induction n with
    | zero => intro y z; rfl
    | succ n ih =>
      intro y z
      rw [m_X8_allImports_4, m_X8_allImports_4, h.t0 (c := 29) (by omega), h.t0 (c := 28) (by omega), ih]
  exact key 1000 0 0
theorem e_stale (h : MFR σ τ) (hI : IW σ 0) : m_X9_staleCount τ 0 = m_X9_staleCount σ 0 := by
  have key : ∀ n y z, m_X9_staleCount_4 τ 0 n y z = m_X9_staleCount_4 σ 0 n y z := by
    intro n
    induction n with
    | zero => intro y z; rfl
    | succ n ih =>
      intro y z
      rw [m_X9_staleCount_4, m_X9_staleCount_4, h.n (c := 18) (by omega), h.n (c := 17) (by omega), e_reason h hI]
      exact ite_g (fun _ => rfl) (fun _ => chk_g (fun _ => bnd_g (fun r _ => ite_g (fun _ => ih _ _) (fun _ => ih _ _))))
  exact key 1000 0 0
theorem e_state (h : MFR σ τ) (x : Int32) : m_X9_stateOf τ 0 x = m_X9_stateOf σ 0 x := by
  unfold m_X9_stateOf
  rw [h.la]
theorem state_lt (hI : IW σ 0) {x : Int32} {r : Nat} (h : m_X9_stateOf σ 0 x = some r) : r < 20 := by
  unfold m_X9_stateOf at h
  obtain ⟨hi, h⟩ := chk_some h
  obtain ⟨r5, h5, h⟩ := bnd_some h
  obtain ⟨_, h⟩ := chk_some h
  cases h
  exact lk_lt hI hi h5
theorem e_isd {t : Nat} (h : τ.1 26 t = σ.1 26 t) (x : Int32) : m_X8_isDeclared τ t x = m_X8_isDeclared σ t x := by
  unfold m_X8_isDeclared
  rw [h]
theorem e_faulty (h : MFR σ τ) (hI : IW σ 0) (x : Int32) : m_X9_isFaulty τ 0 x = m_X9_isFaulty σ 0 x := by
  unfold m_X9_isFaulty
  rw [e_state h]
  refine bnd_g (fun r hr => chk_g (fun _ => ?_))
  have := state_lt hI hr
  rw [e_isd (h.tr2 (c := 26) (by omega) this), h.r (c := 31) (by omega) (show r < 21 by omega)]
theorem e_faults (h : MFR σ τ) (hI : IW σ 0) : m_X9_faultCount τ 0 = m_X9_faultCount σ 0 := by
  have key : ∀ n y z, m_X9_faultCount_4 τ 0 n y z = m_X9_faultCount_4 σ 0 n y z := by
    intro n
    induction n with
    | zero => intro y z; rfl
    | succ n ih =>
      intro y z
      rw [m_X9_faultCount_4, m_X9_faultCount_4, e_faulty h hI]
      exact ite_g (fun _ => rfl) (fun _ => bnd_g (fun r _ => ite_g (fun _ => ih _ _) (fun _ => ih _ _)))
  exact key 1000 0 0
theorem e_slotF (h : MFR σ τ) (hI : IW σ 0) (x : Int32) : m_X10_slotOfFault τ x = m_X10_slotOfFault σ x := by
  have key : ∀ n y z, m_X10_slotOfFault_4 τ x n y z = m_X10_slotOfFault_4 σ x n y z := by
    intro n
    induction n with
    | zero => intro y z; rfl
    | succ n ih =>
      intro y z
      rw [m_X10_slotOfFault_4, m_X10_slotOfFault_4, e_faulty h hI]
      exact ite_g (fun _ => rfl) (fun _ => bnd_g (fun r _ => ite_g (fun _ => ih _ _) (fun _ => ite_g (fun _ => rfl) (fun _ => ih _ _))))
  exact key 1000 0 0
theorem e_chkM (h : MFR σ τ) (x : Int32) : m_X10_checkModule τ x = m_X10_checkModule σ x := by
  unfold m_X10_checkModule
  rw [h.t0 (c := 29) (by omega)]
theorem e_chkW (x a b : Int32) : m_X10_checkWithin τ x a b = m_X10_checkWithin σ x a b := rfl
theorem e_part (x y : Int32) : m_X10_partOf τ x y = m_X10_partOf σ x y := rfl
theorem e_trait (x : Int64) (y : Int32) : m_X0_trait τ x y = m_X0_trait σ x y := rfl
theorem e_ofModule (h : MFR σ τ) (hI : IW σ 0) (x y : Int32) : m_X10_ofModule τ x y = m_X10_ofModule σ x y := by
  unfold m_X10_ofModule
  rw [e_chkM h, e_chkW (σ := σ) (τ := τ), e_decls h, h.t0 (c := 28) (by omega), h.n (c := 15) (by omega), h.n (c := 16) (by omega), h.n (c := 13) (by omega), h.n (c := 1) (by omega), h.n (c := 2) (by omega), e_small (σ := σ) (τ := τ), e_want h, e_reason h hI]
theorem e_within (h : MFR σ τ) (x y z : Int32) : m_X10_within τ x y z = m_X10_within σ x y z := by
  unfold m_X10_within
  rw [e_chkM h, h.n (c := 7) (by omega)]
  rfl
theorem e_outside (h : MFR σ τ) (hI : IW σ 0) (x y z : Int32) : m_X10_outside τ x y z = m_X10_outside σ x y z := by
  unfold m_X10_outside
  rw [e_chkM h, h.n (c := 6) (by omega), e_state h]
  refine bnd_g (fun _ _ => ?_)
  show bnd (m_X10_checkWithin σ y 0 15) _ = bnd (m_X10_checkWithin σ y 0 15) _
  refine bnd_g (fun _ _ => ?_)
  show bnd (m_X10_checkWithin σ z 0 5) _ = bnd (m_X10_checkWithin σ z 0 5) _
  refine bnd_g (fun _ _ => chk_g (fun _ => ite_g (fun _ => ite_g (fun _ => bnd_g (fun r hr => chk_g (fun _ => chk_g (fun _ => ?_)))) (fun _ => rfl)) (fun _ => rfl)))
  rw [h.j (c := 1) (by have := state_lt hI hr; omega)]
  rfl
theorem e_why (h : MFR σ τ) (hI : IW σ 0) (x y : Int32) : m_X10_why τ x y = m_X10_why σ x y := by
  unfold m_X10_why
  rw [e_chkM h, h.n (c := 15) (by omega), e_reason h hI, e_res h]
  refine bnd_g (fun _ _ => ?_)
  show bnd (m_X10_checkWithin σ y 0 3) _ = bnd (m_X10_checkWithin σ y 0 3) _
  refine bnd_g (fun _ _ => chk_g (fun _ => bnd_g (fun r _ => ite_g (fun _ => rfl) (fun _ => ite_g (fun _ => by rw [e_culprit h hI]) (fun _ => ite_g (fun _ => bnd_g (fun r5 h5 => chk_g (fun _ => ?_))) (fun _ => rfl))))))
  rw [e_oans h hI (res_lt hI h5)]
  rfl
theorem e_built (h : MFR σ τ) (hI : IW σ 0) (x y z : Int32) : m_X10_built τ x y z = m_X10_built σ x y z := by
  unfold m_X10_built
  rw [e_chkM h, e_state h]
  refine bnd_g (fun _ _ => ?_)
  show bnd (m_X10_checkWithin σ y 0 15) _ = bnd (m_X10_checkWithin σ y 0 15) _
  refine bnd_g (fun _ _ => ?_)
  show bnd (m_X10_checkWithin σ z 0 5) _ = bnd (m_X10_checkWithin σ z 0 5) _
  refine bnd_g (fun _ _ => bnd_g (fun r hr => chk_g (fun _ => ?_)))
  have hr := state_lt hI hr
  have e : ∀ v, m_X5_callCount τ r v = m_X5_callCount σ r v := fun v => by
    unfold m_X5_callCount m_X5_callCount_15
    rw [h.r (c := 35) (by omega) (show r < 21 by omega), h.r (c := 36) (by omega) (show r < 21 by omega)]
  rw [e_isd (h.tr2 (c := 26) (by omega) hr), h.r (c := 31) (by omega) (show r < 21 by omega), h.r (c := 34) (by omega) (show r < 21 by omega), h.r (c := 35) (by omega) (show r < 21 by omega), h.j (c := 1) (show r < 21 by omega), e]
  rfl
theorem e_fault (h : MFR σ τ) (hI : IW σ 0) (x y : Int32) : m_X10_fault τ x y = m_X10_fault σ x y := by
  unfold m_X10_fault
  rw [e_slotF h hI]
  refine bnd_g (fun s _ => ite_g (fun _ => rfl) (fun _ => ?_))
  show bnd (m_X10_checkWithin σ y 0 2) _ = bnd (m_X10_checkWithin σ y 0 2) _
  refine bnd_g (fun _ _ => ite_g (fun _ => ?_) (fun _ => rfl))
  rw [e_state h]
  refine bnd_g (fun r hr => chk_g (fun _ => ?_))
  rw [h.r (c := 31) (by omega) (by have := state_lt hI hr; omega)]
theorem e_many (h : MFR σ τ) (hI : IW σ 0) (x : Int32) : m_X10_many τ x = m_X10_many σ x := by
  unfold m_X10_many
  rw [e_alld h, e_alli h, e_stale h hI, e_faults h hI, h.t0 (c := 29) (by omega), h.n (c := 18) (by omega), h.n (c := 3) (by omega), h.n (c := 4) (by omega), h.n (c := 5) (by omega), h.1 19 0 (by omega) (by omega) (by omega) (by omega)]
  rfl
theorem e_asNew (h : MFR σ τ) (hI : IW σ 0) : m_X10_isAsNew τ = m_X10_isAsNew σ := by
  unfold m_X10_isAsNew
  rw [e_stale h hI]
end EQS
