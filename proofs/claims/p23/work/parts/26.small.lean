/-! SMALL: what the short methods answer -/
theorem ix16 (a b : Nat) : nI a * 16 + nI b = nI (a * 16 + b) := by rw [show (16 : Int32) = nI 16 from rfl, pk_mul, nI_add]
theorem ix5 (a b : Nat) : nI a * 5 + nI b = nI (a * 5 + b) := by rw [show (5 : Int32) = nI 5 from rfl, pk_mul, nI_add]
theorem ix8 (a b : Nat) : nI a * 8 + nI b = nI (a * 8 + b) := by rw [show (8 : Int32) = nI 8 from rfl, pk_mul, nI_add]
theorem ix2 (a : Nat) : 2 * nI a = nI (2 * a) := by rw [show (2 : Int32) = nI 2 from rfl, pk_mul]
theorem ix2b (a b : Nat) : 2 * nI a + nI b = nI (2 * a + b) := by rw [show (2 : Int32) = nI 2 from rfl, pk_mul, nI_add]
theorem mu16 (a : Nat) : nI a * 16 = nI (a * 16) := by rw [show (16 : Int32) = nI 16 from rfl, pk_mul]
theorem dv16 {a : Nat} (h : a < 2147483648) : nI a / 16 = nI (a / 16) := pk_div (d := 16) h (by decide) (by decide)
theorem md16 {a : Nat} (h : a < 2147483648) : nI a % 16 = nI (a % 16) := nI_mod (d := 16) h (by decide) (by decide)
theorem nI_ne_m1 {a : Nat} (h : a < 2147483648) : ¬ nI a = (-1) := fun e => by
  have := congrArg Int32.toInt e
  rw [nI_toInt h] at this
  have h2 : ((-1 : Int32)).toInt = -1 := by decide
  omega
theorem nI_ne_m2 {a : Nat} (h : a < 2147483648) : ¬ nI a = (-2) := fun e => by
  have := congrArg Int32.toInt e
  rw [nI_toInt h] at this
  have h2 : ((-2 : Int32)).toInt = -2 := by decide
  omega
theorem if_01 (c : Prop) [Decidable c] : (if c then (1 : Int32) else 0) = 0 ↔ ¬ c := by
  by_cases h : c <;> simp [h]
theorem q_has (σ : Sg) (x : Int32) {k : Nat} (hk : k < 32) : m_X6_has σ x (nI k) = some (if bt x k = true then 1 else 0) := by
  unfold m_X6_has
  by_cases h : bt x k = true
  · rw [if_pos ((bt_test hk).mpr h), if_pos h]
  · rw [if_neg (fun q => h ((bt_test hk).mp q)), if_neg h]
theorem q_decl (σ : Sg) (t : Nat) {s : Nat} (h : s < 128) : m_X8_isDeclared σ t (nI s) = some (if σ.1 26 t s = 0 then 0 else 1) := by
  unfold m_X8_isDeclared
  rw [chk_e (inb_nI h (by decide)), cl_nI (by omega)]
  split <;> rfl
theorem q_imp (σ : Sg) (t : Nat) {m k : Nat} (hm : m < 8) (hk : k < 5) : m_X8_importAt σ t (nI m) (nI k) = some (σ.1 27 t (m * 5 + k)) := by
  unfold m_X8_importAt
  rw [ix5, chk_e (inb_nI (by omega) (by decide)), cl_nI (by omega)]
/-- the parts of an import and of a declaration -/
def impFrom (x : Int32) : Nat := x.toBitVec.toNat % 2 ^ 3
def impName (x : Int32) : Nat := (x >>> ((3 : Int32) &&& 31)).toBitVec.toNat % 2 ^ 5
def impUnder (x : Int32) : Nat := (x >>> ((8 : Int32) &&& 31)).toBitVec.toNat % 2 ^ 4
def refN (x : Int32) (side : Nat) : Nat := if side = 0 then (x >>> ((11 : Int32) &&& 31)).toBitVec.toNat % 2 ^ 5 else (x >>> ((16 : Int32) &&& 31)).toBitVec.toNat % 2 ^ 5
theorem impFrom_lt (x : Int32) : impFrom x < 8 := Nat.mod_lt _ (by decide)
theorem impName_lt (x : Int32) : impName x < 32 := Nat.mod_lt _ (by decide)
theorem impUnder_lt (x : Int32) : impUnder x < 16 := Nat.mod_lt _ (by decide)
theorem refN_lt (x : Int32) (side : Nat) : refN x side < 32 := by unfold refN; split <;> exact Nat.mod_lt _ (by decide)
theorem q_from (σ : Sg) (x : Int32) : m_X2_from σ x = some (nI (impFrom x)) := by
  unfold m_X2_from; rw [pk_and x (m := 7) 3 (by decide)]; rfl
theorem q_under (σ : Sg) (x : Int32) : m_X2_under σ x = some (nI (impUnder x)) := by
  unfold m_X2_under; rw [pk_and _ (m := 15) 4 (by decide)]; rfl
theorem q_ofAll (σ : Sg) (x : Int32) : m_X2_isOfAll σ x = some (if impName x = 0 then 1 else 0) := by
  unfold m_X2_isOfAll
  rw [pk_and _ (m := 31) 5 (by decide)]
  show (if nI (impName x) = 0 then _ else _) = _
  have h := impName_lt x
  by_cases h0 : impName x = 0
  · rw [if_pos h0, if_pos (by rw [h0]; rfl)]
  · rw [if_neg h0, if_neg (nI_ne0 (by omega) (by omega))]
theorem q_again (σ : Sg) (x : Int32) : m_X2_isAgain σ x = some (if bt x 12 = true then 1 else 0) := by
  unfold m_X2_isAgain
  show (if (x >>> (nI 12 &&& 31)) &&& 1 = 1 then _ else _) = _
  by_cases h : bt x 12 = true
  · rw [if_pos ((bt_test (k := 12) (by decide)).mpr h), if_pos h]
  · rw [if_neg (fun q => h ((bt_test (k := 12) (by decide)).mp q)), if_neg h]
theorem q_source (σ : Sg) {x : Int32} (h : ¬ impName x = 0) : m_X2_source σ x = some (nI (impFrom x * 16 + impName x - 1)) := by
  unfold m_X2_source
  rw [bnd_e (q_from σ x), pk_and _ (m := 31) 5 (by decide)]
  show some (nI (impFrom x) * 16 + nI (impName x) - 1) = _
  rw [ix16, show (1 : Int32) = nI 1 from rfl, pk_sub (by omega)]
theorem q_public (σ : Sg) (x : Int32) : m_X1_isPublic σ x = some (if bt x 2 = true then 1 else 0) := by
  unfold m_X1_isPublic
  show (if (x >>> (nI 2 &&& 31)) &&& 1 = 1 then _ else _) = _
  by_cases h : bt x 2 = true
  · rw [if_pos ((bt_test (k := 2) (by decide)).mpr h), if_pos h]
  · rw [if_neg (fun q => h ((bt_test (k := 2) (by decide)).mp q)), if_neg h]
theorem q_proc (σ : Sg) (x : Int32) : m_X1_isProcedure σ x = some (if bt x 1 = true then 1 else 0) := by
  unfold m_X1_isProcedure
  show (if (x >>> (nI 1 &&& 31)) &&& 1 = 1 then _ else _) = _
  by_cases h : bt x 1 = true
  · rw [if_pos ((bt_test (k := 1) (by decide)).mpr h), if_pos h]
  · rw [if_neg (fun q => h ((bt_test (k := 1) (by decide)).mp q)), if_neg h]
theorem q_ref (σ : Sg) (x : Int32) {side : Nat} (hs : side < 2) : m_X1_reference σ x (nI side) = some (if refN x side = 0 then -1 else nI (refN x side - 1)) := by
  have h := refN_lt x side
  have key : (nI (refN x side) - 1 : Int32) = if refN x side = 0 then -1 else nI (refN x side - 1) := by
    by_cases h0 : refN x side = 0
    · rw [if_pos h0, h0]; rfl
    · rw [if_neg h0, show (1 : Int32) = nI 1 from rfl, pk_sub (by omega)]
  rw [← key]
  unfold m_X1_reference
  have h2 : side = 0 ∨ side = 1 := by omega
  rcases h2 with rfl | rfl
  · rw [if_pos (show nI 0 = 0 from rfl), pk_and _ (m := 31) 5 (by decide)]; rfl
  · rw [if_neg (show ¬ nI 1 = 0 by decide), pk_and _ (m := 31) 5 (by decide)]; rfl
/-- how many of the first n -/
def cntB (p : Nat → Bool) : Nat → Nat
  | 0 => 0
  | n + 1 => cntB p n + if p n then 1 else 0
theorem cntB_le (p : Nat → Bool) : ∀ n, cntB p n ≤ n
  | 0 => Nat.le_refl 0
  | n + 1 => by
    have := cntB_le p n
    rw [cntB]; split <;> omega
theorem cntB_congr {p q : Nat → Bool} : ∀ n, (∀ k, k < n → p k = q k) → cntB p n = cntB q n
  | 0, _ => rfl
  | n + 1, h => by rw [cntB, cntB, cntB_congr n (fun k hk => h k (by omega)), h n (by omega)]
/-- how many declarations a module has -/
def isD (σ : Sg) (t s : Nat) : Bool := decide (¬ σ.1 26 t s = 0)
def cntD (σ : Sg) (t m : Nat) : Nat := cntB (fun k => isD σ t (m * 16 + k)) 16
theorem q_declOf (σ : Sg) (t : Nat) {m : Nat} (hm : m < 8) : m_X8_declarationsOf σ t (nI m) = some (nI (cntD σ t m)) := by
  have key : ∀ n k, k ≤ 16 → 16 - k < n → m_X8_declarationsOf_4 σ t (nI m) n (nI (cntB (fun k => isD σ t (m * 16 + k)) k)) (nI k) = some (nI (cntD σ t m)) := by
    intro n
    induction n with
    | zero => intro k _ h; omega
    | succ n ih =>
      intro k hk hn
      rw [m_X8_declarationsOf_4]
      by_cases h : k = 16
      · subst h
        rw [if_pos (by decide)]; rfl
      · rw [if_neg (by rw [show (16 : Int32) = nI 16 from rfl, nI_leI (by omega) (by omega)]; omega), ix16, bnd_e (q_decl σ t (by omega))]
        have hc : isD σ t (m * 16 + k) = decide (¬ σ.1 26 t (m * 16 + k) = 0) := rfl
        have h2 := ih (k + 1) (by omega) (by omega)
        rw [cntB] at h2
        by_cases h0 : σ.1 26 t (m * 16 + k) = 0
        · rw [if_pos h0, if_pos rfl, nI_1]
          rw [hc, decide_eq_false (by simpa using h0)] at h2
          exact h2
        · rw [if_neg h0, if_neg (by decide), nI_1, nI_1]
          rw [hc, decide_eq_true h0] at h2
          exact h2
  exact key 1000 0 (by omega) (by omega)
theorem q_small (σ : Sg) (x : Int32) : m_X6_smallestOf σ x = some (-1) ∧ (∀ k, k < 8 → bt x k = false) ∨ ∃ j, j < 8 ∧ m_X6_smallestOf σ x = some (nI j) ∧ bt x j = true ∧ ∀ k, k < j → bt x k = false := by
  have key : ∀ n k, k ≤ 8 → 8 - k < n → (∀ i, i < k → bt x i = false) → (m_X6_smallestOf_2 σ x n (nI k) = some (-1) ∧ (∀ k, k < 8 → bt x k = false) ∨ ∃ j, j < 8 ∧ m_X6_smallestOf_2 σ x n (nI k) = some (nI j) ∧ bt x j = true ∧ ∀ k, k < j → bt x k = false) := by
    intro n
    induction n with
    | zero => intro k _ h; omega
    | succ n ih =>
      intro k hk hn hb
      rw [m_X6_smallestOf_2]
      by_cases h : k = 8
      · subst h
        exact Or.inl ⟨by rw [if_pos (by decide)], hb⟩
      · rw [if_neg (by rw [show (8 : Int32) = nI 8 from rfl, nI_leI (by omega) (by omega)]; omega), bnd_e (q_has σ x (by omega))]
        by_cases h0 : bt x k = true
        · exact Or.inr ⟨k, by omega, by rw [if_pos h0, if_neg (by decide)], h0, hb⟩
        · rw [if_neg h0, if_pos rfl, nI_1]
          exact ih (k + 1) (by omega) (by omega) (fun i hi => by
            by_cases e : i = k
            · subst e; simpa using h0
            · exact hb i (by omega))
  exact key 1000 0 (by omega) (by omega) (fun i hi => by omega)
/-! for 'simp (disch := omega) only [..]': a model's steps -/
theorem chk_n {α : Type} {a n : Nat} {k : Option α} (h : a < n) (hn : n ≤ 2147483648) : chk (inb (nI a) n) k = k := chk_e (inb_nI h hn)
theorem bnd_s {α β : Type} (x : α) (k : α → Option β) : bnd (some x) k = k x := rfl
theorem bnd2_s {α β γ : Type} (x : α) (y : β) (k : α → β → Option γ) : bnd2 (some (x, y)) k = k x y := rfl
theorem st_s {α β : Type} (x : α) (k : α → Option β) : st x k = k x := rfl
theorem le_n {a b : Nat} (ha : a < 2147483648) (hb : b < 2147483648) : (nI a ≤ nI b) = (a ≤ b) := propext (nI_leI ha hb)
theorem lt_n {a b : Nat} (ha : a < 2147483648) (hb : b < 2147483648) : (nI a < nI b) = (a < b) := propext (nI_ltI ha hb)
theorem eq_n {a b : Nat} (ha : a < 2147483648) (hb : b < 2147483648) : (nI a = nI b) = (a = b) := propext (nI_eq ha hb)
theorem eq_0 {a : Nat} (ha : a < 2147483648) : (nI a = 0) = (a = 0) := eq_n (b := 0) ha (by decide)
theorem le_2 {a : Nat} (ha : a < 2147483648) : ((2 : Int32) ≤ nI a) = (2 ≤ a) := le_n (a := 2) (by decide) ha
theorem le_8 {a : Nat} (ha : a < 2147483648) : ((8 : Int32) ≤ nI a) = (8 ≤ a) := le_n (a := 8) (by decide) ha
theorem le_16 {a : Nat} (ha : a < 2147483648) : ((16 : Int32) ≤ nI a) = (16 ≤ a) := le_n (a := 16) (by decide) ha
theorem le_128 {a : Nat} (ha : a < 2147483648) : ((128 : Int32) ≤ nI a) = (128 ≤ a) := le_n (a := 128) (by decide) ha
theorem lt_128 {a : Nat} (ha : a < 2147483648) : ((128 : Int32) < nI a) = (128 < a) := lt_n (a := 128) (by decide) ha
theorem lt_256 {a : Nat} (ha : a < 2147483648) : ((256 : Int32) < nI a) = (256 < a) := lt_n (a := 256) (by decide) ha
theorem ltz {a : Nat} (ha : a < 2147483648) : (nI a < 0) = False := eq_false (fun h => by
  rw [show (0 : Int32) = nI 0 from rfl, nI_ltI ha (by decide)] at h; omega)
theorem ge_0 {a : Nat} (ha : a < 2147483648) : ((0 : Int32) ≤ nI a) = True := eq_true (by
  rw [show (0 : Int32) = nI 0 from rfl, nI_leI (by decide) ha]; omega)
theorem le0 {a : Nat} (ha : a < 2147483648) : (nI a ≤ 0) = (a = 0) := propext (by
  rw [show (0 : Int32) = nI 0 from rfl, nI_leI ha (by decide)]; omega)
theorem m1_lt : ((-1 : Int32) < 0) = True := eq_true (by decide)
theorem m2_lt : ((-2 : Int32) < 0) = True := eq_true (by decide)
theorem m3_lt : ((-3 : Int32) < 0) = True := eq_true (by decide)
theorem eq_m1 {a : Nat} (ha : a < 2147483648) : (nI a = (-1 : Int32)) = False := eq_false (nI_ne_m1 ha)
theorem eq_m2 {a : Nat} (ha : a < 2147483648) : (nI a = (-2 : Int32)) = False := eq_false (nI_ne_m2 ha)
theorem ite_01 {α : Type} (c : Prop) [Decidable c] (A B : α) : (if (if c then (1 : Int32) else 0) = 0 then A else B) = if c then B else A := by
  by_cases h : c <;> simp [h]
theorem ite_10 {α : Type} (c : Prop) [Decidable c] (A B : α) : (if (if c then (0 : Int32) else 1) = 0 then A else B) = if c then A else B := by
  by_cases h : c <;> simp [h]
theorem sub_1 {a : Nat} (h : 1 ≤ a) : nI a - 1 = nI (a - 1) := pk_sub (b := 1) h
theorem pm1 {a : Nat} (h : 1 ≤ a) : nI a + (-1) = nI (a - 1) := by
  obtain ⟨z, rfl⟩ : ∃ z, a = z + 1 := ⟨a - 1, by omega⟩
  exact pk_m1 z
