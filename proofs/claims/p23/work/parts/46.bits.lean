/-! ANSWERS: their bits -/
def ab (x : Int64) (i : Nat) : Bool := x.toBitVec.getLsbD i
theorem ab_ext {x y : Int64} (h : ∀ i, i < 64 → ab x i = ab y i) : x = y := Int64.toBitVec_inj.mp (BitVec.eq_of_getLsbD_eq (fun i hi => h i hi))
theorem ab_or (x y : Int64) (i : Nat) : ab (x ||| y) i = (ab x i || ab y i) := by unfold ab; rw [Int64.toBitVec_or, BitVec.getLsbD_or]
theorem ab_and (x y : Int64) (i : Nat) : ab (x &&& y) i = (ab x i && ab y i) := by unfold ab; rw [Int64.toBitVec_and, BitVec.getLsbD_and]
theorem ab_i32 (x : Int32) {i : Nat} (hi : i < 64) : ab x.toInt64 i = if i < 32 then bt x i else bt x 31 := by
  unfold ab bt
  rw [Int32.toBitVec_toInt64, BitVec.getLsbD_signExtend, BitVec.msb_eq_getLsbD_last]
  simp [hi]
theorem ab_mask : ∀ i, i < 64 → ab 4294967295 i = decide (i < 32) := by decide +kernel
theorem sh11 : (((11 : Int32).toInt64 &&& 63).toBitVec.smod 64).toNat = 11 := by decide +kernel
theorem ab_shl11 (x : Int64) {i : Nat} (hi : i < 64) : ab (x <<< ((11 : Int32).toInt64 &&& 63)) i = (decide (11 ≤ i) && ab x (i - 11)) := by
  unfold ab
  rw [Int64.toBitVec_shiftLeft]
  show (x.toBitVec <<< (((11 : Int32).toInt64 &&& 63).toBitVec.smod 64).toNat).getLsbD i = _
  rw [sh11, BitVec.getLsbD_shiftLeft]
  rcases Nat.lt_or_ge i 11 with h | h
  · simp [h, Nat.not_le.mpr h]
  · simp [hi, h, Nat.not_lt.mpr h]
theorem bt_128 : ∀ i, i < 32 → bt 128 i = decide (i = 7) := by decide +kernel
theorem bt_256 : ∀ i, i < 32 → bt 256 i = decide (i = 8) := by decide +kernel
theorem bt_512 : ∀ i, i < 32 → bt 512 i = decide (i = 9) := by decide +kernel
theorem bt_1024 : ∀ i, i < 32 → bt 1024 i = decide (i = 10) := by decide +kernel
theorem bt_if (c : Prop) [Decidable c] (x y : Int32) (i : Nat) : bt (if c then x else y) i = if c then bt x i else bt y i := by split <;> rfl
/-- the small part -/
def lowV (a b c d : Int32) : Int32 := (((a ||| 128) ||| (if b = 0 then 0 else 256)) ||| (if c = 0 then 0 else 512)) ||| (if d = 0 then 0 else 1024)
theorem lowV_bit (a b c d : Int32) {i : Nat} (hi : i < 32) : bt (lowV a b c d) i = ((((bt a i || decide (i = 7)) || (decide (¬ b = 0) && decide (i = 8))) || (decide (¬ c = 0) && decide (i = 9))) || (decide (¬ d = 0) && decide (i = 10))) := by
  unfold lowV
  rw [b_or, b_or, b_or, b_or, bt_if, bt_if, bt_if, bt_128 i hi, bt_256 i hi, bt_512 i hi, bt_1024 i hi, b_0]
  by_cases h1 : b = 0 <;> by_cases h2 : c = 0 <;> by_cases h3 : d = 0 <;> simp [h1, h2, h3]
theorem bt_slot {j i : Nat} (hj : j < 128) (hi : i < 32) : bt (nI j) i = (decide (i < 7) && j.testBit i) := by
  rw [bt_nI j i hi]
  by_cases h : i < 7
  · simp [h]
  · rw [decide_eq_false h, Bool.false_and]
    exact Nat.testBit_lt_two_pow (Nat.lt_of_lt_of_le hj (show 2 ^ 7 ≤ 2 ^ i from Nat.pow_le_pow_right (by omega) (by omega)))
theorem ansV_bit {j : Nat} (hj : j < 128) (b c d n : Int32) {i : Nat} (hi : i < 64) : ab (ansV (nI j) b c d n) i = (((((decide (i < 7) && j.testBit i) || decide (i = 7)) || (decide (¬ b = 0) && decide (i = 8))) || (decide (¬ c = 0) && decide (i = 9))) || (decide (¬ d = 0) && decide (i = 10)) || (decide (11 ≤ i) && decide (i < 43) && bt n (i - 11))) := by
  show ab ((lowV (nI j) b c d).toInt64 ||| ((n.toInt64 &&& 4294967295) <<< ((11 : Int32).toInt64 &&& 63))) i = _
  rw [ab_or, ab_i32 _ hi, ab_shl11 _ hi]
  have h31 : bt (lowV (nI j) b c d) 31 = false := by
    rw [lowV_bit _ _ _ _ (by omega), bt_slot hj (by omega)]
    simp
  have hs : (decide (11 ≤ i) && ab (n.toInt64 &&& 4294967295) (i - 11)) = (decide (11 ≤ i) && decide (i < 43) && bt n (i - 11)) := by
    by_cases h11 : 11 ≤ i
    · rw [ab_and, ab_i32 _ (by omega), ab_mask _ (by omega)]
      by_cases h43 : i < 43
      · rw [if_pos (by omega), decide_eq_true (show i - 11 < 32 by omega), decide_eq_true h43]; simp
      · rw [decide_eq_false (show ¬ i - 11 < 32 by omega), decide_eq_false h43]; simp
    · rw [decide_eq_false h11]; simp
  rw [hs]
  by_cases h : i < 32
  · rw [if_pos h, lowV_bit _ _ _ _ h, bt_slot hj h]
  · rw [if_neg h, h31]
    simp [show ¬ i < 7 by omega, show ¬ i = 7 by omega, show ¬ i = 8 by omega, show ¬ i = 9 by omega, show ¬ i = 10 by omega]
/-- the number in an answer -/
def numA (x : Int64) : Int32 := Int32.ofBitVec ((x.toBitVec >>> 11).setWidth 32)
theorem numA_bit (x : Int64) {i : Nat} (hi : i < 32) : bt (numA x) i = ab x (i + 11) := by
  unfold bt numA ab
  show ((x.toBitVec >>> 11).setWidth 32).getLsbD i = _
  rw [BitVec.getLsbD_setWidth, BitVec.getLsbD_ushiftRight, decide_eq_true hi, Bool.true_and, Nat.add_comm]
/-- an answer that is a declaration's -/
def AJ1 (j : Nat) (x : Int64) : Prop := ab x 7 = true ∧ ab x 63 = false ∧ ∀ i, i < 7 → ab x i = j.testBit i
theorem ansOf_AJ (D : Nat → Nat → Int32) {j : Nat} (hj : j < 128) : AJ1 j (ansOf D j) := by
  unfold ansOf
  refine ⟨?_, ?_, fun i hi => ?_⟩
  · rw [ansV_bit hj _ _ _ _ (by omega)]; simp
  · rw [ansV_bit hj _ _ _ _ (by omega)]; simp
  · rw [ansV_bit hj _ _ _ _ (by omega)]
    simp [hi, show ¬ i = 7 by omega, show ¬ i = 8 by omega, show ¬ i = 9 by omega, show ¬ i = 10 by omega, show ¬ 11 ≤ i by omega]
theorem ansOf_8 (D : Nat → Nat → Int32) {j : Nat} (hj : j < 128) : ab (ansOf D j) 8 = decide (D 32 j = 0) := by
  unfold ansOf
  rw [ansV_bit hj _ _ _ _ (by omega)]
  by_cases h : D 32 j = 0 <;> simp [h]
theorem ansOf_9 (D : Nat → Nat → Int32) {j : Nat} (hj : j < 128) : ab (ansOf D j) 9 = decide (¬ D 31 j = 0) := by
  unfold ansOf
  rw [ansV_bit hj _ _ _ _ (by omega)]
  by_cases h : D 31 j = 0 <;> simp [h]
theorem ansOf_10 (D : Nat → Nat → Int32) {j : Nat} (hj : j < 128) : ab (ansOf D j) 10 = (decide (¬ D 33 j = 0) && decide (¬ D 32 j = 0)) := by
  unfold ansOf
  rw [ansV_bit hj _ _ _ _ (by omega)]
  by_cases h : D 33 j = 0 <;> by_cases h2 : D 32 j = 0 <;> simp [h, h2]
theorem ansOf_n (D : Nat → Nat → Int32) {j : Nat} (hj : j < 128) : numA (ansOf D j) = if D 33 j = 0 then 0 else D 34 j := by
  apply b_ext
  intro i hi
  rw [numA_bit _ hi]
  unfold ansOf
  rw [ansV_bit hj _ _ _ _ (by omega)]
  simp [show ¬ i + 11 < 7 by omega, show i + 11 < 43 by omega]
theorem ab_neg1 : ab ((-1 : Int32).toInt64) 63 = true ∧ ab ((-1 : Int32).toInt64) 0 = true := by decide +kernel
theorem ab_neg2 : ab ((-2 : Int32).toInt64) 63 = true ∧ ab ((-2 : Int32).toInt64) 0 = false := by decide +kernel
theorem ab_slot {j i : Nat} (hj : j < 128) (hi : i < 64) : ab (nI j).toInt64 i = (decide (i < 7) && j.testBit i) := by
  rw [ab_i32 _ hi]
  by_cases h : i < 32
  · rw [if_pos h, bt_slot hj h]
  · rw [if_neg h, bt_slot hj (by omega)]
    simp [show ¬ i < 7 by omega]
theorem bits7 {a b : Nat} (ha : a < 128) (hb : b < 128) (h : ∀ i, i < 7 → a.testBit i = b.testBit i) : a = b := by
  apply Nat.eq_of_testBit_eq
  intro i
  by_cases hi : i < 7
  · exact h i hi
  · have q : ∀ x, x < 128 → x.testBit i = false := fun x hx => Nat.testBit_lt_two_pow (Nat.lt_of_lt_of_le hx (show 2 ^ 7 ≤ 2 ^ i from Nat.pow_le_pow_right (by omega) (by omega)))
    rw [q a ha, q b hb]
def AJ (an : Nat → Int64) : Prop := ∀ j, j < 128 → AJ1 j (an j)
/-- the three kinds of an answer -/
theorem aTo_cases {o : Nat → Int32} {an : Nat → Int64} {ring : Int32} {s : Nat} (h : SL2 (o s)) : (o s = -1 ∧ aToA o an ring s = (-1 : Int32).toInt64) ∨ (o s = -2 ∧ aToA o an ring s = (-2 : Int32).toInt64) ∨ ∃ j, j < 128 ∧ o s = nI j ∧ ((bt ring (j / 16) = true ∧ aToA o an ring s = (nI j).toInt64) ∨ (bt ring (j / 16) = false ∧ aToA o an ring s = an j)) := by
  unfold aToA
  rcases h with h | h | ⟨j, hj, h⟩
  · exact Or.inl ⟨h, by rw [h, if_pos (by decide)]⟩
  · exact Or.inr (Or.inl ⟨h, by rw [h, if_pos (by decide)]⟩)
  · refine Or.inr (Or.inr ⟨j, hj, h, ?_⟩)
    rw [h, if_neg (by rw [ltz (by omega)]; exact id), cl_nI (by omega)]
    by_cases hb : bt ring (j / 16) = true
    · exact Or.inl ⟨hb, if_pos hb⟩
    · exact Or.inr ⟨by simpa using hb, if_neg hb⟩
/-- what an answer tells -/
theorem aTo_inj {o1 o2 : Nat → Int32} {an1 an2 : Nat → Int64} {ring : Int32} {s1 s2 : Nat} (h1 : SL2 (o1 s1)) (h2 : SL2 (o2 s2)) (a1 : AJ an1) (a2 : AJ an2) (he : aToA o1 an1 ring s1 = aToA o2 an2 ring s2) : o1 s1 = o2 s2 ∧ ∀ j, j < 128 → o1 s1 = nI j → bt ring (j / 16) = false → an1 j = an2 j := by
  have dj : ∀ {i j : Nat}, i < 128 → j < 128 → nI i = nI j → i = j := fun hi hj e => (nI_eq (by omega) (by omega)).mp e
  rcases aTo_cases (an := an1) (ring := ring) h1 with ⟨x1, y1⟩ | ⟨x1, y1⟩ | ⟨j1, hj1, x1, ⟨z1, y1⟩ | ⟨z1, y1⟩⟩ <;> rcases aTo_cases (an := an2) (ring := ring) h2 with ⟨x2, y2⟩ | ⟨x2, y2⟩ | ⟨j2, hj2, x2, ⟨z2, y2⟩ | ⟨z2, y2⟩⟩ <;> rw [y1, y2] at he
  · exact ⟨by rw [x1, x2], fun j hj e => absurd (e.symm.trans x1) (nI_ne_m1 (by omega))⟩
  · exact absurd he (by decide)
  · have := ab_neg1.1; rw [he, ab_slot hj2 (by omega)] at this; simp at this
  · have := ab_neg1.1; rw [he, (a2 j2 hj2).2.1] at this; cases this
  · exact absurd he (by decide)
  · exact ⟨by rw [x1, x2], fun j hj e => absurd (e.symm.trans x1) (nI_ne_m2 (by omega))⟩
  · have := ab_neg2.1; rw [he, ab_slot hj2 (by omega)] at this; simp at this
  · have := ab_neg2.1; rw [he, (a2 j2 hj2).2.1] at this; cases this
  · have := ab_neg1.1; rw [← he, ab_slot hj1 (by omega)] at this; simp at this
  · have := ab_neg2.1; rw [← he, ab_slot hj1 (by omega)] at this; simp at this
  · have e : j1 = j2 := bits7 hj1 hj2 (fun i hi => by
      have q := congrArg (fun x => ab x i) he
      rw [ab_slot hj1 (by omega), ab_slot hj2 (by omega), decide_eq_true hi] at q
      simpa using q)
    subst e
    exact ⟨by rw [x1, x2], fun j hj e2 e3 => by rw [dj hj hj1 (e2.symm.trans x1), z1] at e3; cases e3⟩
  · have := (a2 j2 hj2).1; rw [← he, ab_slot hj1 (by omega)] at this; simp at this
  · have := ab_neg1.1; rw [← he, (a1 j1 hj1).2.1] at this; cases this
  · have := ab_neg2.1; rw [← he, (a1 j1 hj1).2.1] at this; cases this
  · have := (a1 j1 hj1).1; rw [he, ab_slot hj2 (by omega)] at this; simp at this
  · have e : j1 = j2 := bits7 hj1 hj2 (fun i hi => by
      have q := congrArg (fun x => ab x i) he
      rw [(a1 j1 hj1).2.2 i hi, (a2 j2 hj2).2.2 i hi] at q
      exact q)
    subst e
    exact ⟨by rw [x1, x2], fun j hj e2 _ => by rw [dj hj hj1 (e2.symm.trans x1)]; exact he⟩
theorem aTo_n3 {o : Nat → Int32} {an : Nat → Int64} {ring : Int32} {s : Nat} (h : SL2 (o s)) (a : AJ an) : ¬ aToA o an ring s = -3 := by
  have h7 : ab (-3 : Int64) 7 = true ∧ ab (-3 : Int64) 63 = true := by decide +kernel
  rcases aTo_cases (an := an) (ring := ring) h with ⟨_, y⟩ | ⟨_, y⟩ | ⟨j, hj, _, ⟨_, y⟩ | ⟨_, y⟩⟩ <;> rw [y]
  · decide
  · decide
  · intro e
    have := h7.2; rw [← e, ab_slot hj (by omega)] at this; simp at this
  · intro e
    have := h7.2; rw [← e, (a j hj).2.1] at this; cases this
