/-! PURE: bits (pasted from kit/laws/BITS), numbers, places of a state, triples -/
def bt (x : Int32) (i : Nat) : Bool := x.toBitVec.getLsbD i
theorem b_ext {x y : Int32} (h : ∀ i, i < 32 → bt x i = bt y i) : x = y := Int32.toBitVec_inj.mp (BitVec.eq_of_getLsbD_eq (fun i hi => h i hi))
theorem b_or (x y : Int32) (i : Nat) : bt (x ||| y) i = (bt x i || bt y i) := by unfold bt; rw [Int32.toBitVec_or, BitVec.getLsbD_or]
theorem b_and (x y : Int32) (i : Nat) : bt (x &&& y) i = (bt x i && bt y i) := by unfold bt; rw [Int32.toBitVec_and, BitVec.getLsbD_and]
theorem b_xor (x y : Int32) (i : Nat) : bt (x ^^^ y) i = (bt x i ^^ bt y i) := by unfold bt; rw [Int32.toBitVec_xor, BitVec.getLsbD_xor]
theorem b_big {x : Int32} {i : Nat} (h : 32 ≤ i) : bt x i = false := BitVec.getLsbD_of_ge _ _ h
theorem b_255 (i : Nat) : bt 255 i = decide (i < 8) := by
  rcases Nat.lt_or_ge i 32 with h | h
  · exact (by decide +kernel : ∀ i, i < 32 → bt 255 i = decide (i < 8)) i h
  · rw [b_big h, decide_eq_false (by omega)]
theorem b_65535 (i : Nat) : bt 65535 i = decide (i < 16) := by
  rcases Nat.lt_or_ge i 32 with h | h
  · exact (by decide +kernel : ∀ i, i < 32 → bt 65535 i = decide (i < 16)) i h
  · rw [b_big h, decide_eq_false (by omega)]
theorem b_m1 : ∀ i, i < 32 → bt (-1) i = true := by decide +kernel
theorem b_0 (i : Nat) : bt 0 i = false := BitVec.getLsbD_zero
theorem s_l : ∀ n, n < 32 → ((nI n &&& 31).toBitVec.smod 32).toNat = n := by decide +kernel
theorem s_u : ∀ n, n < 32 → (((nI n).toUInt32 &&& Int32.toUInt32 31).toBitVec % 32).toNat = n := by decide +kernel
theorem b_shl (n : Nat) (hn : n < 32) (x : Int32) {i : Nat} (hi : i < 32) : bt (x <<< (nI n &&& 31)) i = (decide (n ≤ i) && bt x (i - n)) := by
  unfold bt
  rw [Int32.toBitVec_shiftLeft]
  show (x.toBitVec <<< ((nI n &&& 31).toBitVec.smod 32).toNat).getLsbD i = _
  rw [s_l n hn, BitVec.getLsbD_shiftLeft]
  rcases Nat.lt_or_ge i n with h | h
  · simp [h, Nat.not_le.mpr h]
  · simp [hi, h, Nat.not_lt.mpr h]
theorem b_ushr (n : Nat) (hn : n < 32) (x : Int32) (i : Nat) : bt ((x.toUInt32 >>> ((nI n).toUInt32 &&& Int32.toUInt32 31)).toInt32) i = bt x (n + i) := by
  show (x.toUInt32 >>> ((nI n).toUInt32 &&& Int32.toUInt32 31)).toBitVec.getLsbD i = x.toUInt32.toBitVec.getLsbD (n + i)
  rw [UInt32.toBitVec_shiftRight]
  show (x.toUInt32.toBitVec >>> (((nI n).toUInt32 &&& Int32.toUInt32 31).toBitVec % 32).toNat).getLsbD i = _
  rw [s_u n hn, BitVec.getLsbD_ushiftRight]
theorem b_sshr (n : Nat) (hn : n < 32) (x : Int32) {i : Nat} (hi : i < 32) : bt (x >>> (nI n &&& 31)) i = if n + i < 32 then bt x (n + i) else bt x 31 := by
  unfold bt
  rw [Int32.toBitVec_shiftRight]
  show (x.toBitVec.sshiftRight ((nI n &&& 31).toBitVec.smod 32).toNat).getLsbD i = _
  rw [s_l n hn, BitVec.getLsbD_sshiftRight, BitVec.msb_eq_getLsbD_last]
  simp [hi]
theorem b_shl8 (x : Int32) {i : Nat} (hi : i < 32) : bt (x <<< ((8 : Int32) &&& 31)) i = (decide (8 ≤ i) && bt x (i - 8)) := b_shl 8 (by omega) x hi
theorem b_shl16 (x : Int32) {i : Nat} (hi : i < 32) : bt (x <<< ((16 : Int32) &&& 31)) i = (decide (16 ≤ i) && bt x (i - 16)) := b_shl 16 (by omega) x hi
theorem b_shl24 (x : Int32) {i : Nat} (hi : i < 32) : bt (x <<< ((24 : Int32) &&& 31)) i = (decide (24 ≤ i) && bt x (i - 24)) := b_shl 24 (by omega) x hi
theorem b_sshr8 (x : Int32) {i : Nat} (hi : i < 32) : bt (x >>> ((8 : Int32) &&& 31)) i = if 8 + i < 32 then bt x (8 + i) else bt x 31 := b_sshr 8 (by omega) x hi
/-! ===== nI under and, xor, >>>, one bit, 65535 ===== -/
theorem nI_lit (n : Nat) : (OfNat.ofNat n : Int32) = nI n := rfl
theorem nI_or (a b : Nat) : nI a ||| nI b = nI (a ||| b) := by
  apply Int32.toBitVec_inj.1
  show BitVec.ofNat 32 a ||| BitVec.ofNat 32 b = BitVec.ofNat 32 (a ||| b)
  apply BitVec.eq_of_getLsbD_eq
  intro i hi
  simp [hi]
theorem nI_mod {a d : Nat} (ha : a < 2 ^ 31) (h0 : 0 < d) (hd : d < 2 ^ 31) : nI a % nI d = nI (a % d) := by
  apply Int32.toInt_inj.1
  rw [Int32.toInt_mod, nI_toInt ha, nI_toInt hd, nI_toInt (Nat.lt_of_le_of_lt (Nat.mod_le a d) ha)]
  exact (Int.ofNat_tmod a d).symm
theorem bt_nI (a i : Nat) (hi : i < 32) : bt (nI a) i = a.testBit i := by
  unfold bt
  show (BitVec.ofNat 32 a).getLsbD i = _
  rw [BitVec.getLsbD_ofNat]
  simp [hi]
/-- the bit k alone -/
theorem bt_one (k : Nat) (hk : k < 32) {i : Nat} (hi : i < 32) : bt ((1 : Int32) <<< (nI k &&& 31)) i = decide (i = k) := by
  rw [b_shl k hk 1 hi]
  show (decide (k ≤ i) && bt (nI 1) (i - k)) = _
  rw [bt_nI 1 (i - k) (by omega)]
  by_cases h : i = k
  · subst h; simp
  · rw [decide_eq_false h]
    by_cases h2 : k ≤ i
    · have : 1 ≤ i - k := by omega
      obtain ⟨z, hz⟩ : ∃ z, i - k = z + 1 := ⟨i - k - 1, by omega⟩
      rw [hz, Nat.testBit_succ]; simp
    · simp [h2]
theorem bt_test {x : Int32} {k : Nat} (hk : k < 32) : ((x >>> (nI k &&& 31)) &&& 1) = 1 ↔ bt x k = true := by
  have h1 : ∀ i, i < 32 → bt ((x >>> (nI k &&& 31)) &&& 1) i = (decide (i = 0) && bt x k) := by
    intro i hi
    have h2 : bt (1 : Int32) i = decide (i = 0) := (by decide +kernel : ∀ i, i < 32 → bt (1 : Int32) i = decide (i = 0)) i hi
    rw [b_and, h2]
    by_cases h0 : i = 0
    · subst h0
      rw [b_sshr k hk x (by omega), if_pos (by omega)]
      simp
    · simp [h0]
  constructor
  · intro h
    have h3 := h1 0 (by omega)
    rw [h] at h3
    simpa using h3.symm.trans (by rfl)
  · intro h
    apply b_ext
    intro i hi
    rw [h1 i hi, h]
    exact ((by decide +kernel : ∀ i, i < 32 → bt (1 : Int32) i = decide (i = 0)) i hi).symm ▸ (by simp)
theorem bt_zero {x : Int32} : x = 0 ↔ ∀ i, i < 32 → bt x i = false := ⟨fun h i _ => by rw [h, b_0], fun h => b_ext (fun i hi => by rw [h i hi, b_0])⟩
/-- what is written is read -/
theorem wI_1 (σ : Sg) (c o i : Nat) (v : Int32) (c' o' i' : Nat) : (wI σ c o i v).1 c' o' i' = if c' = c ∧ o' = o ∧ i' = i then v else σ.1 c' o' i' := by
  unfold wI rowI upd
  dsimp only
  by_cases h : c' = c ∧ o' = o
  · obtain ⟨rfl, rfl⟩ := h
    simp
  · rw [if_neg h, if_neg (fun q => h ⟨q.1, q.2.1⟩)]
theorem wI_2 (σ : Sg) (c o i : Nat) (v : Int32) : (wI σ c o i v).2 = σ.2 := rfl
theorem wI_s (σ : Sg) (c o i : Nat) (v : Int32) : (wI σ c o i v).1 c o i = v := by rw [wI_1, if_pos ⟨rfl, rfl, rfl⟩]
theorem rowI_1 (σ : Sg) (c o : Nat) (f : Nat → Int32) (c' o' : Nat) : (rowI σ c o f).1 c' o' = if c' = c ∧ o' = o then f else σ.1 c' o' := rfl
theorem rowI_2 (σ : Sg) (c o : Nat) (f : Nat → Int32) : (rowI σ c o f).2 = σ.2 := rfl
theorem wJ_1 (σ : Sg) (c o i : Nat) (v : Int64) (c' o' i' : Nat) : (wJ σ c o i v).2.1 c' o' i' = if c' = c ∧ o' = o ∧ i' = i then v else σ.2.1 c' o' i' := by
  unfold wJ rowJ vp_updL
  dsimp only
  by_cases h : c' = c ∧ o' = o
  · obtain ⟨rfl, rfl⟩ := h
    simp
  · rw [if_neg h, if_neg (fun q => h ⟨q.1, q.2.1⟩)]
theorem wJ_i (σ : Sg) (c o i : Nat) (v : Int64) : (wJ σ c o i v).1 = σ.1 := rfl
theorem wJ_p (σ : Sg) (c o i : Nat) (v : Int64) : (wJ σ c o i v).2.2 = σ.2.2 := rfl
theorem rowJ_1 (σ : Sg) (c o : Nat) (f : Nat → Int64) (c' o' : Nat) : (rowJ σ c o f).2.1 c' o' = if c' = c ∧ o' = o then f else σ.2.1 c' o' := rfl
theorem wP_1 (σ : Sg) (c o i r : Nat) (c' o' i' : Nat) : (wP σ c o i r).2.2 c' o' i' = if c' = c ∧ o' = o ∧ i' = i then some r else σ.2.2 c' o' i' := by
  unfold wP rowP va_up
  dsimp only
  by_cases h : c' = c ∧ o' = o
  · obtain ⟨rfl, rfl⟩ := h
    simp
  · rw [if_neg h, if_neg (fun q => h ⟨q.1, q.2.1⟩)]
theorem wP_i (σ : Sg) (c o i r : Nat) : (wP σ c o i r).1 = σ.1 := rfl
theorem wP_j (σ : Sg) (c o i r : Nat) : (wP σ c o i r).2.1 = σ.2.1 := rfl
/-- an index -/
theorem inb_nI {a n : Nat} (h : a < n) (hn : n ≤ 2147483648) : inb (nI a) n = true := by
  unfold inb
  rw [nI_toInt (by omega)]
  simp
  omega
theorem cl_nI {a : Nat} (h : a < 2147483648) : (nI a).toNatClampNeg = a := nI_clamp h
/-- a program that comes to an end with P -/
def ok {α : Type} (P : α → Prop) (x : Option α) : Prop := ∃ a, x = some a ∧ P a
theorem ok_r {α : Type} {P : α → Prop} {a : α} (h : P a) : ok P (some a) := ⟨a, rfl, h⟩
theorem ok_c {α : Type} {P : α → Prop} {b : Bool} {k : Option α} (hb : b = true) (h : ok P k) : ok P (chk b k) := by subst hb; exact h
theorem ok_b {α β : Type} {Q : α → Prop} {P : β → Prop} {a : Option α} {k : α → Option β} (h : ok Q a) (hk : ∀ x, Q x → ok P (k x)) : ok P (bnd a k) := by
  obtain ⟨x, rfl, hx⟩ := h
  exact hk x hx
theorem ok_b2 {α β γ : Type} {Q : α × β → Prop} {P : γ → Prop} {a : Option (α × β)} {k : α → β → Option γ} (h : ok Q a) (hk : ∀ x y, Q (x, y) → ok P (k x y)) : ok P (bnd2 a k) := by
  obtain ⟨x, rfl, hx⟩ := h
  exact hk x.1 x.2 hx
theorem ok_i {α : Type} {P : α → Prop} {c : Prop} [Decidable c] {a b : Option α} (h1 : c → ok P a) (h2 : ¬ c → ok P b) : ok P (if c then a else b) := by
  by_cases h : c
  · rw [if_pos h]; exact h1 h
  · rw [if_neg h]; exact h2 h
theorem ok_w {α : Type} {P Q : α → Prop} {x : Option α} (h : ok P x) (hPQ : ∀ a, P a → Q a) : ok Q x := by
  obtain ⟨a, e, p⟩ := h
  exact ⟨a, e, hPQ a p⟩
theorem ok_e {α : Type} {P : α → Prop} {x : Option α} {a : α} (e : x = some a) (h : P a) : ok P x := ⟨a, e, h⟩
theorem bnd_e {α β : Type} {a : Option α} {k : α → Option β} {x : α} (h : a = some x) : bnd a k = k x := by rw [h]; rfl
theorem chk_e {α : Type} {b : Bool} {k : Option α} (h : b = true) : chk b k = k := by rw [h]; rfl
theorem ok_s {α β : Type} {P : β → Prop} {x : α} {k : α → Option β} (h : ok P (k x)) : ok P (st x k) := h
