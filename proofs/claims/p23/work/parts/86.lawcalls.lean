/-! THE LAW's calls, by what it keeps to; the skeleton's words (pasted from kit/laws/SKELETON.whole) -/
def R_law : String := "CutoffMillLaw"
def lw_P (b : Addr) (xs : List Int32) (args : Array Value) (s : State) : Prop := args = #[.ref b] ∧ s.IntsAt b xs ∧ xs.length ≤ 260 ∧ (Jvm.Cond.and given_1 narrow_1).before args s = true
def lw_Q (_ : Array Value) (s : State) (o : Outcome) (t : State) : Prop := o = .returned (some (.int 1)) ∧ Framed s o t [] 600064 7301640
def lw_Z (below : List Frame) (a : Array Value) (s : State) : State → Prop := fun t => ∃ o, t.status = .running ∧ Ended t below o ∧ lw_Q a s o t
/-- the law's own end, with 1 on the stack, nothing written that was there before, its room as the claim has it -/
theorem lw_ret {p : Program} {l : Launch} {e : Env} {s : State} {m : MethodId} {below : List Frame} {meth : Method} {c : Code} {b : Nat} (hx : p.tables.exec = Jvm.exec) (hb : c.code = code) (hr : meth.sig.returnType = ret) (hlocks : meth.locks = false) {pc : Nat} {H : Heap} {ls : Array Slot} (hdg : decode code pc = .ok (.ireturn, 1)) : W p l e room_1 s m #[Value.ref b] below meth c H [] 600064 7301640 (lw_Z below #[Value.ref b] s) (F0 m pc ls [.int 1]) := by
  intro T hT X
  obtain ⟨fs, hret, hrun, hended, hW, hframe⟩ := X.leave (v := some (.int 1)) (hlocks := hlocks) (fun h => by rw [hr] at h; cases h)
  have hmeth' : T.vm.method? m = some meth := X.method'
  refine ⟨T.setFrames fs, ?_, .returned (some (.int 1)), hrun, hended, rfl, ⟨_, rfl⟩, hW, hframe⟩
  jvm_step X.here [X.here.top, hx, hb, hdg, hmeth', hr, ret, narrow_b1]
  (try refine ⟨rfl, ?_⟩); (try refine ⟨rfl, ?_⟩)
  first | (intro acts; rw [hret _ acts rfl rfl rfl]) | rw [hret _ _ rfl rfl rfl]
  exact Steps.refl _
/-- what holds at the law's entry: the machine, the code, the tables' words (any of lw_tbl by 'hts w (by decide +kernel)'), the script of L ints xs at the cell b, what the Statement gives of the start (any of its parts by flat_of_before) -/
def lw_At (p : Program) (s : State) (m : MethodId) (meth : Method) (c : Code) (b L : Nat) (xs : Nat → Int32) : Prop :=
  p.tables.exec = Jvm.exec ∧ c.code = code ∧ meth.sig.returnType = ret ∧ c.maxLocals = 10 ∧ s.vm.findClass R_law = some m.cls ∧ (∀ w ∈ lw_tbl, w.before #[Value.ref b] s = true) ∧ va_X b L xs s s.heap ∧ b < s.heap.size ∧ meth.locks = false ∧ (Jvm.Cond.and given_1 narrow_1).before #[Value.ref b] s = true

theorem rnd_one {σ : Sg} {mc : Nat} (hB : BASE σ mc) : rndS σ 1 = dueS σ := roA_one hB.rg.2.1 8 _ hB.vi (due_le hB)
theorem rnd_le {σ : Sg} {mc : Nat} (hB : BASE σ mc) (k : Nat) : rndS σ k ≤ dueS σ := (roA_le hB.rg.2.1 8 _ hB.vi).1
section LZS
variable {σ : Sg} {mc : Nat}
theorem lz_would (h : LZ σ mc) : ∃ σ', m_X10_wouldBuild σ = some (σ', nI (dueS σ)) ∧ LZ σ' mc ∧ MFR σ σ' := by
  obtain ⟨⟨σ', r⟩, e, h1, h2, h3⟩ := s_would h.1.1
  have h3 : r = nI (dueS σ) := h3
  exact ⟨σ', by rw [e, h3], h.mfr h1 h2, h1⟩
theorem lz_rounds (h : LZ σ mc) {k : Nat} (h1 : 1 ≤ k) (h4 : k ≤ 4) : ∃ σ', m_X10_rounds σ (nI k) = some (σ', nI (rndS σ k)) ∧ LZ σ' mc ∧ MFR σ σ' := by
  obtain ⟨⟨σ', r⟩, e, g1, g2, g3⟩ := s_rounds h.1.1 h1 h4
  have g3 : r = nI (rndS σ k) := g3
  exact ⟨σ', by rw [e, g3], h.mfr g1 g2, g1⟩
theorem lz_many4 (h : LZ σ mc) : ∃ k, k ≤ 8 ∧ m_X10_many σ 4 = some (nI k) ∧ (k = 0 ↔ dueS σ = 0) := by
  obtain ⟨k, hk, e, hz⟩ := stale_due h.1.1
  refine ⟨k, hk, ?_, hz⟩
  unfold m_X10_many
  rw [q_within σ (by decide) (by decide), bnd_s, if_neg (by decide), if_neg (by decide), if_neg (by decide), if_neg (by decide), if_pos (by decide), e, bnd_s]
theorem lz_many6 (h : LZ σ mc) : ∃ k, k ≤ 10 ∧ m_X10_many σ 6 = some (nI k) := by
  obtain ⟨c, hS, _⟩ := h.1.1.2.2.2.2.1.2.2.1
  refine ⟨c, hS.2.1, ?_⟩
  unfold m_X10_many
  rw [q_within σ (by decide) (by decide), bnd_s, if_neg (by decide), if_neg (by decide), if_neg (by decide), if_neg (by decide), if_neg (by decide), if_neg (by decide), if_pos (by decide), hS.1]
theorem lz_many7 (σ : Sg) : m_X10_many σ 7 = some (σ.1 3 0 0) := by
  unfold m_X10_many
  rw [q_within σ (by decide) (by decide), bnd_s, if_neg (by decide), if_neg (by decide), if_neg (by decide), if_neg (by decide), if_neg (by decide), if_neg (by decide), if_neg (by decide), if_pos (by decide)]
theorem lz_many8 (σ : Sg) : m_X10_many σ 8 = some (σ.1 4 0 0) := by
  unfold m_X10_many
  rw [q_within σ (by decide) (by decide), bnd_s, if_neg (by decide), if_neg (by decide), if_neg (by decide), if_neg (by decide), if_neg (by decide), if_neg (by decide), if_neg (by decide), if_neg (by decide), if_pos (by decide)]
theorem lz_build (h : LZ σ mc) {k : Nat} (h1 : 1 ≤ k) (h8 : k ≤ 8) : ∃ σ' t, m_X10_build σ (nI k) = some (σ', nI t) ∧ LZ σ' mc ∧ σ'.1 3 0 0 + σ'.1 4 0 0 = σ.1 3 0 0 + σ.1 4 0 0 + nI t ∧ dueS σ = t + dueS σ' ∧ (k = 8 → dueS σ' = 0 ∧ t = dueS σ) := by
  obtain ⟨⟨σ', r⟩, e, g1, g2, g3, g4, g5, g6, g7, g8⟩ := s_build h.1.1 h1 h8
  have g3 : r = nI (pb (CXW σ 0) (qR σ) (cnR σ) 0 k (VW σ 0)).2 := g3
  refine ⟨σ', _, by rw [e, g3], h.build g1 g2 g5, g4, build_due h.1.1 g1 g5 g6 g7 g8, fun hk => ?_⟩
  subst hk
  exact build_all h.1.1 g1 g5 g6 g7 g8
theorem lz_asNew (h : LZ σ mc) (h0 : dueS σ = 0) : m_X10_isAsNew σ = some 1 := by
  obtain ⟨k, hk, e, hz⟩ := stale_due h.1.1
  unfold m_X10_isAsNew
  rw [e, bnd_s, hz.mpr h0, if_pos (show nI 0 = 0 from rfl)]
theorem lz_isBuilt (h : LZ σ mc) : ∃ σ', m_L_isBuilt σ (nI mc) = some (σ', 1) ∧ LZ σ' mc := by
  obtain ⟨⟨σ', r⟩, e, g1, g2⟩ := s_isBuilt h.1.1 h.2
  have g2 : r = 1 := g2
  exact ⟨σ', by rw [e, g2], h.vfr g1⟩
theorem lz_run (h : LZ σ mc) {j : Nat} (hj : j < 16 * mc) : ∃ σ', m_X10_run σ (nI (j / 16)) (nI (j % 16)) = some (σ', runV σ j) ∧ LZ σ' mc ∧ runV σ' = runV σ := by
  obtain ⟨⟨σ', r⟩, e, g1, g2⟩ := s_run h.1.1 (show j / 16 < mc by omega) (show j % 16 < 16 by omega)
  have g2 : r = runV σ (j / 16 * 16 + j % 16) := g2
  rw [show j / 16 * 16 + j % 16 = j by omega] at g2
  exact ⟨σ', by rw [e, g2], h.vfr g1, g1.runV⟩
theorem lz_edit (h : LZ σ mc) (h1 : 1 ≤ mc) (x y : Int32) : ∃ σ', m_L_edit σ (nI mc) x y = some (σ', 1) ∧ LZ σ' mc ∧ runV σ' = runV σ := by
  obtain ⟨⟨σ', r⟩, e, g⟩ := s_edit h.1 h1 x y
  have g3 : r = 1 := g.2.2
  exact ⟨σ', by rw [e, g3], h.ed g, g.2.1.runV⟩
theorem lz_end (h : LZ σ mc) (h1 : 0 < mc) : ∃ (D : Int64) (σ1 σ2 σ3 σ4 : Sg) (v w : Int32), m_X10_digest σ = some (σ1, D) ∧ m_X10_builtBy σ1 0 0 1 = some (σ2, v) ∧ ¬ v < 0 ∧ m_X10_rounds σ2 2 = some (σ3, w) ∧ ¬ w < 0 ∧ m_X10_digest σ3 = some (σ4, D) := by
  have hB := h.1.1
  obtain ⟨D, hD⟩ := s_digest hB
  obtain ⟨⟨σ1, d1⟩, e1, a1, b1, c1⟩ := hD σ (MFR.rf σ) hB
  have c1 : d1 = D := c1
  have a1 : MFR σ σ1 := a1
  have b1 : BASE σ1 mc := b1
  obtain ⟨⟨σ2, v⟩, e2, a2, b2, c2⟩ := s_builtBy b1 h1
  have a2 : MFR σ1 σ2 := a2
  have b2 : BASE σ2 mc := b2
  obtain ⟨⟨σ3, w⟩, e3, a3, b3, c3⟩ := s_rounds (k := 2) b2 (by omega) (by omega)
  have a3 : MFR σ2 σ3 := a3
  have b3 : BASE σ3 mc := b3
  have c3 : w = nI (rndS σ2 2) := c3
  obtain ⟨⟨σ4, d4⟩, e4, _, _, c4⟩ := hD σ3 ((a1.tr a2).tr a3) b3
  have c4 : d4 = D := c4
  have hle := rnd_le b2 2
  have hle2 := due_le b2
  refine ⟨D, σ1, σ2, σ3, σ4, v, w, by rw [e1, c1], e2, c2, e3, ?_, by rw [e4, c4]⟩
  rw [c3, ltz (by omega)]
  exact fun z => z
end LZS
