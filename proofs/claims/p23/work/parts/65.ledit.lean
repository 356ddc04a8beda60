/-! THE LAW's edit -/
def blw (x : Int32) (n : Nat) : Nat := x.toBitVec.toNat % 2 ^ 31 % n
theorem q_below (σ : Sg) (x : Int32) {n : Nat} (h0 : 0 < n) (hn : n < 2147483648) : m_L_below σ x (nI n) = some (nI (blw x n)) := by
  have hx : x.toBitVec.toNat % 2 ^ 31 < 2147483648 := Nat.mod_lt _ (by decide)
  unfold m_L_below
  rw [chk_e (by
    rw [bne_iff_ne]
    intro e
    have := (nI_eq (b := 0) (by omega) (by decide)).mp e
    omega), pk_and x (m := 2147483647) 31 (by decide)]
  show some (nI (x.toBitVec.toNat % 2 ^ 31) - nI (x.toBitVec.toNat % 2 ^ 31) / nI n * nI n) = _
  have hle := Nat.div_mul_le_self (x.toBitVec.toNat % 2 ^ 31) n
  have hmd := Nat.mod_add_div (x.toBitVec.toNat % 2 ^ 31) n
  rw [pk_div hx h0 hn, pk_mul, pk_sub hle]
  congr 2
  unfold blw
  rw [Nat.mul_comm] at hmd
  omega
theorem blw_lt (x : Int32) {n : Nat} (h : 0 < n) : blw x n < n := Nat.mod_lt _ h
theorem bl2 (σ : Sg) (x : Int32) : m_L_below σ x 2 = some (nI (blw x 2)) := q_below σ x (n := 2) (by decide) (by decide)
theorem bl3 (σ : Sg) (x : Int32) : m_L_below σ x 3 = some (nI (blw x 3)) := q_below σ x (n := 3) (by decide) (by decide)
theorem bl4 (σ : Sg) (x : Int32) : m_L_below σ x 4 = some (nI (blw x 4)) := q_below σ x (n := 4) (by decide) (by decide)
theorem bl7 (σ : Sg) (x : Int32) : m_L_below σ x 7 = some (nI (blw x 7)) := q_below σ x (n := 7) (by decide) (by decide)
theorem bl8 (σ : Sg) (x : Int32) : m_L_below σ x 8 = some (nI (blw x 8)) := q_below σ x (n := 8) (by decide) (by decide)
theorem bl10 (σ : Sg) (x : Int32) : m_L_below σ x 10 = some (nI (blw x 10)) := q_below σ x (n := 10) (by decide) (by decide)
theorem bl14 (σ : Sg) (x : Int32) : m_L_below σ x 14 = some (nI (blw x 14)) := q_below σ x (n := 14) (by decide) (by decide)
theorem bl31 (σ : Sg) (x : Int32) : m_L_below σ x 31 = some (nI (blw x 31)) := q_below σ x (n := 31) (by decide) (by decide)
/-- what an edit leaves -/
def EDQ (σ : Sg) (mc : Nat) (q : Sg × Int32) : Prop := LI q.1 mc ∧ EDF σ q.1 ∧ q.2 = 1
theorem EDF.rf (σ : Sg) : EDF σ σ := ⟨fun _ _ _ _ => rfl, rfl⟩
/-- a name less k, or none -/
theorem sub_nm {r k : Nat} (hr : r < 100) (hk : k < 100) : (0 ≤ nI r - nI k ↔ k ≤ r) ∧ (k ≤ r → nI r - nI k = nI (r - k)) := by
  refine ⟨?_, fun h => pk_sub h⟩
  rw [Int32.le_iff_toInt_le, Int32.toInt_sub, nI_toInt (by omega), nI_toInt (by omega)]
  have h0 : ((0 : Int32)).toInt = 0 := by decide
  rw [h0]
  have : ((r : Int) - (k : Int)).bmod (2 ^ 32) = (r : Int) - (k : Int) := by
    apply Int.bmod_eq_of_le <;> omega
  rw [this]
  omega
section EDS
variable {σ : Sg} {mc m : Nat} {X1 X2 X3 : Int32}
theorem s_e332 (hL : LI σ mc) (hm : m < mc) {p nm k nn : Nat} {x4 n : Int32} (hn : nm < 16) (hk : k ≤ 1) (hnn : nn < 256) (hn1 : n + 99 = nI nn) (hn2 : ∀ σ, m_X10_checkWithin σ n (-99) 99 = some ()) (hp : p ≤ 16) (h6 : ¬ cntD σ 0 m = 6) : ok (EDQ σ mc) (m_L_edit_332 X1 X2 X3 σ (nmI p) n x4 (nI k) (nI nm) (nI m)) := by
  have hb := blw_lt (X3 >>> ((10 : Int32) &&& 31)) (n := 14) (by decide)
  unfold m_L_edit_332
  rw [bl14, bnd_s]
  generalize blw (X3 >>> ((10 : Int32) &&& 31)) 14 = r at *
  have h1 : 0 ≤ nI r - (6 : Int32) ↔ 6 ≤ r := (sub_nm (r := r) (k := 6) (by omega) (by omega)).1
  have h2 : 6 ≤ r → nI r - (6 : Int32) = nI (r - 6) := (sub_nm (r := r) (k := 6) (by omega) (by omega)).2
  have fin : ∀ q, q ≤ 16 → ok (EDQ σ mc) (bnd2 (m_X10_declare σ (nI m) (nI nm) (nI k) x4 n (nmI p) (nmI q)) (fun σ196 r195 => if r195 ≤ 0 then some (σ196, 0) else some (σ196, 1))) := by
    intro q hq
    refine ok_b2 (s_declare hL hm hn hk hnn hn1 (hn2 σ) hp hq h6) (fun σ1 v hv => ?_)
    obtain ⟨v1, v2, c, c1, c2, c3⟩ := hv
    have c3' : v = nI c := c3
    rw [c3', if_neg (by rw [le0 (by omega)]; omega)]
    exact ok_r ⟨v1, v2, rfl⟩
  by_cases h : 6 ≤ r
  · rw [if_pos (h1.mpr h), bnd_s, h2 h]
    have := fin (r - 6 + 1) (by omega)
    rw [show nmI (r - 6 + 1) = nI (r - 6) by unfold nmI; rw [if_neg (by omega)]; congr 1] at this
    exact this
  · rw [if_neg (fun z => h (h1.mp z))]
    exact fin 0 (by omega)
theorem s_e291 (hL : LI σ mc) (hm : m < mc) {nm k : Nat} {x4 : Int32} (hn : nm < 16) (hk : k ≤ 1) (h6 : ¬ cntD σ 0 m = 6) : ok (EDQ σ mc) (m_L_edit_291 X1 X2 X3 σ x4 (nI k) (nI nm) (nI m)) := by
  have hb := blw_lt (X3 >>> ((7 : Int32) &&& 31)) (n := 10) (by decide)
  have hc := blw_lt (X2 >>> ((7 : Int32) &&& 31)) (n := 31) (by decide)
  unfold m_L_edit_291
  rw [bl31, bnd_s, bl10, bnd_s]
  generalize blw (X3 >>> ((7 : Int32) &&& 31)) 10 = r at *
  generalize blw (X2 >>> ((7 : Int32) &&& 31)) 31 = v at *
  have h1 : 0 ≤ nI r - (2 : Int32) ↔ 2 ≤ r := (sub_nm (r := r) (k := 2) (by omega) (by omega)).1
  have h2 : 2 ≤ r → nI r - (2 : Int32) = nI (r - 2) := (sub_nm (r := r) (k := 2) (by omega) (by omega)).2
  have hn1 : nI v - (15 : Int32) + 99 = nI (v + 84) := by
    rw [show (99 : Int32) = nI 15 + nI 84 from by decide, show (15 : Int32) = nI 15 from rfl, ← Int32.add_assoc, Int32.sub_add_cancel, nI_add]
  have hn2 : ∀ σ, m_X10_checkWithin σ (nI v - (15 : Int32)) (-99) 99 = some () := fun σ => by
    have e : (nI v - (15 : Int32)).toInt = (v : Int) - 15 := by
      rw [Int32.toInt_sub, nI_toInt (by omega)]
      have h15 : ((15 : Int32)).toInt = 15 := by decide
      rw [h15]
      apply Int.bmod_eq_of_le <;> omega
    refine q_within σ (fun z => ?_) ?_
    · rw [Int32.lt_iff_toInt_lt, e] at z
      have h99 : ((-99 : Int32)).toInt = -99 := by decide
      omega
    · rw [Int32.le_iff_toInt_le, e]
      have h99 : ((99 : Int32)).toInt = 99 := by decide
      omega
  by_cases h : 2 ≤ r
  · rw [if_pos (h1.mpr h), bnd_s, h2 h]
    have := s_e332 (X1 := X1) (X2 := X2) (X3 := X3) (x4 := x4) (p := r - 2 + 1) (nn := v + 84) hL hm hn hk (by omega) hn1 hn2 (by omega) h6
    rw [show nmI (r - 2 + 1) = nI (r - 2) by unfold nmI; rw [if_neg (by omega)]; congr 1] at this
    exact this
  · rw [if_neg (fun z => h (h1.mp z))]
    exact s_e332 (p := 0) (nn := v + 84) hL hm hn hk (by omega) hn1 hn2 (by omega) h6
theorem s_e252 (hL : LI σ mc) (hm : m < mc) {nm : Nat} (hn : nm < 16) : ok (EDQ σ mc) (m_L_edit_252 X1 X2 X3 σ (nI m) (nI nm)) := by
  have h6 := hL.2 m (by have := hL.1.2.1.2; omega)
  unfold m_L_edit_252
  rw [q_ofMod0 hL.1.2.1 hm, bnd_s]
  by_cases e : cntD σ 0 m = 6
  · rw [if_pos (by rw [e]; rfl)]
    exact ok_r ⟨hL, EDF.rf σ, rfl⟩
  · rw [if_neg (by rw [show (6 : Int32) = nI 6 from rfl, eq_n (by omega) (by omega)]; exact e), bl2, bnd_s, bl4, bnd_s]
    have hk := blw_lt (X3 >>> ((4 : Int32) &&& 31)) (n := 2) (by decide)
    by_cases h : nI (blw (X3 >>> ((5 : Int32) &&& 31)) 4) ≤ 0
    · rw [if_pos h]
      exact s_e291 hL hm hn (by omega) e
    · rw [if_neg h]
      exact s_e291 hL hm hn (by omega) e
theorem s_e197 (hL : LI σ mc) (hm : m < mc) {f p u : Nat} (hf : f < 8) (hfm : ¬ f = m) (hp : p ≤ 16) (hu : u < 16) (hpu : p = 0 → u = 0) (h5 : ¬ cnt σ 0 m = 5) : ok (EDQ σ mc) (m_L_edit_197 X1 X2 X3 σ (nI u) (nmI p) (nI f) (nI m)) := by
  unfold m_L_edit_197
  rw [bl2, bnd_s]
  have fin : ∀ x : Int32, ok (EDQ σ mc) (bnd2 (m_X10_bring σ (nI m) (nI f) (nmI p) (nI u) x) (fun σ148 r147 => if r147 < 0 then some (σ148, 0) else some (σ148, 1))) := by
    intro x
    refine ok_b2 (s_bring hL hm hf hfm hp hu hpu h5) (fun σ1 v hv => ?_)
    obtain ⟨v1, v2, c, c1, c2⟩ := hv
    have c2' : v = nI c := c2
    rw [c2', if_neg (by rw [ltz (by omega)]; exact id)]
    exact ok_r ⟨v1, v2, rfl⟩
  by_cases h : nI (blw (X3 >>> ((3 : Int32) &&& 31)) 2) = 0
  · rw [if_pos h]; exact fin 1
  · rw [if_neg h]; exact fin 0
theorem toInt_c {r : Nat} (hr : r < 100) (k : Nat) (hk : k < 100) : ((nI r).toInt = (k : Int)) = (r = k) := by
  rw [nI_toInt (by omega)]
  exact propext ⟨fun h => by omega, fun h => by omega⟩
theorem s_edit (hL : LI σ mc) (h1 : 1 ≤ mc) (x y : Int32) : ok (EDQ σ mc) (m_L_edit σ (nI mc) x y) := by
  have hM := hL.1.2.1
  have hmc := hM.2
  have hr := blw_lt x (n := mc) h1
  have hn := blw_lt y (n := 8) (by decide)
  have hf := blw_lt (y >>> ((6 : Int32) &&& 31)) (n := 8) (by decide)
  have hs := blw_lt (x >>> ((3 : Int32) &&& 31)) (n := 7) (by decide)
  have hp := blw_lt (y >>> ((9 : Int32) &&& 31)) (n := 8) (by decide)
  have hd := blw_lt (y >>> ((11 : Int32) &&& 31)) (n := 8) (by decide)
  unfold m_L_edit
  rw [q_below σ x (n := mc) h1 (by omega), bnd_s, bl8, bnd_s, bl8, bnd_s, bl7, bnd_s]
  generalize blw x mc = m at *
  generalize blw y 8 = nm at *
  generalize blw (y >>> ((6 : Int32) &&& 31)) 8 = f at *
  generalize blw (x >>> ((3 : Int32) &&& 31)) 7 = sw at *
  have ht := hL.1.1.1.1 m (by omega)
  have e0 : ((nI sw).toInt = 0) = (sw = 0) := toInt_c (by omega) 0 (by omega)
  have e1 : ((nI sw).toInt = 1) = (sw = 1) := toInt_c (by omega) 1 (by omega)
  have e2 : ((nI sw).toInt = 2) = (sw = 2) := toInt_c (by omega) 2 (by omega)
  have e3 : ((nI sw).toInt = 3) = (sw = 3) := toInt_c (by omega) 3 (by omega)
  have brg : ok (EDQ σ mc) (if nI f = nI m then some (σ, 1) else bnd (m_X10_ofModule σ (nI m) 1) (fun r129 => if r129 = 5 then some (σ, 1) else bnd (m_L_below σ y 3) (fun r132 => if r132 = 0 then bnd (m_L_below σ y 3) (fun r150 => if r150 = 0 then m_L_edit_197 (nI mc) x y σ 0 ((-1)) (nI f) (nI m) else m_L_edit_197 (nI mc) x y σ (nI nm) ((-1)) (nI f) (nI m)) else bnd (m_L_below σ (y >>> ((9 : Int32) &&& 31)) 8) (fun r135 => bnd (m_L_below σ y 3) (fun r138 => if r138 = 0 then m_L_edit_197 (nI mc) x y σ 0 r135 (nI f) (nI m) else m_L_edit_197 (nI mc) x y σ (nI nm) r135 (nI f) (nI m)))))) := by
    by_cases h : f = m
    · rw [if_pos (by rw [h])]
      exact ok_r ⟨hL, EDF.rf σ, rfl⟩
    · rw [if_neg (by rw [eq_n (by omega) (by omega)]; exact h), q_ofMod1 hM hr, bnd_s, ht.2]
      by_cases h5 : cnt σ 0 m = 5
      · rw [if_pos (by rw [h5]; rfl)]
        exact ok_r ⟨hL, EDF.rf σ, rfl⟩
      · rw [if_neg (by rw [show (5 : Int32) = nI 5 from rfl, eq_n (by omega) (by omega)]; exact h5), bl3, bnd_s]
        by_cases h0 : nI (blw y 3) = 0
        · rw [if_pos h0, bnd_s, if_pos h0]
          exact s_e197 (u := 0) (p := 0) hL hr hf h (by omega) (by omega) (fun _ => rfl) h5
        · rw [if_neg h0, bl8, bnd_s, bnd_s, if_neg h0]
          generalize blw (y >>> ((9 : Int32) &&& 31)) 8 = p at *
          have := s_e197 (X1 := nI mc) (X2 := x) (X3 := y) (u := nm) (p := p + 1) hL hr hf h (by omega) (by omega) (fun z => absurd z (by omega)) h5
          rw [show nmI (p + 1) = nI p by unfold nmI; rw [if_neg (by omega)]; congr 1] at this
          exact this
  by_cases s0 : sw = 0
  · rw [if_pos (by rw [e0]; exact s0), q_ofMod0 hM hr, bnd_s]
    refine ok_b2 (s_drop hL hr (show nm < 16 by omega)) (fun σ1 v hv => ?_)
    obtain ⟨v1, v2, v3⟩ := hv
    have fin : ∀ c, c = cntD σ1 0 m → ok (EDQ σ mc) (m_L_edit_93 (nI mc) x y σ1 (nI c) (nI m)) := by
      intro c hc
      unfold m_L_edit_93
      rw [q_ofMod0 v1.1.2.1 hr, bnd_s, hc, if_pos rfl]
      exact ok_r ⟨v1, v2, rfl⟩
    rcases v3 with ⟨a, b⟩ | ⟨a, b⟩
    · have a' : v = 0 := a
      rw [a', if_pos rfl]
      exact fin _ b.symm
    · have a' : v = 1 := a
      have b' : cntD σ1 0 m + 1 = cntD σ 0 m := b
      rw [a', if_neg (by decide), sub_1 (by omega)]
      exact fin _ (by omega)
  · rw [if_neg (by rw [e0]; exact s0)]
    by_cases s1 : sw = 1
    · rw [if_pos (by rw [e1]; exact s1), q_ofMod1 hM hr, bnd_s, ht.2]
      by_cases h0 : cnt σ 0 m = 0
      · rw [if_pos (by rw [h0]; rfl)]
        exact ok_r ⟨hL, EDF.rf σ, rfl⟩
      · rw [if_neg (by rw [eq_0 (by omega)]; exact h0)]
        refine ok_b2 (s_leave hL hr h0) (fun σ1 v hv => ?_)
        obtain ⟨v1, v2, c, c1, c2⟩ := hv
        have c2' : v = nI c := c2
        rw [c2', if_neg (by rw [ltz (by omega)]; exact id)]
        exact ok_r ⟨v1, v2, rfl⟩
    · rw [if_neg (by rw [e1]; exact s1)]
      by_cases s2 : sw = 2
      · rw [if_pos (by rw [e2]; exact s2)]
        exact brg
      · rw [if_neg (by rw [e2]; exact s2)]
        by_cases s3 : sw = 3
        · rw [if_pos (by rw [e3]; exact s3)]
          exact brg
        · rw [if_neg (by rw [e3]; exact s3), q_ofMod0 hM hr, bnd_s]
          have h6 := hL.2 m (by omega)
          by_cases h : cntD σ 0 m = 6
          · rw [if_pos (by rw [h]; rfl), bl8, bnd_s]
            refine ok_b2 (s_drop hL hr (show blw (y >>> ((11 : Int32) &&& 31)) 8 < 16 by omega)) (fun σ1 v hv => ?_)
            obtain ⟨v1, v2, _⟩ := hv
            exact ok_w (s_e252 v1 hr (by omega)) (fun q hq => ⟨hq.1, v2.tr hq.2.1, hq.2.2⟩)
          · rw [if_neg (by rw [show (6 : Int32) = nI 6 from rfl, eq_n (by omega) (by omega)]; exact h)]
            exact s_e252 hL hr (by omega)
end EDS
