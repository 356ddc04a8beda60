/-! NAMES: fills, what the imports say -/
/-- all but these components of ints, and longs and results, stay -/
def FR (cs : List Nat) (σ σ' : Sg) : Prop := (∀ c, c ∉ cs → σ'.1 c = σ.1 c) ∧ σ'.2 = σ.2
theorem FR.rf (cs : List Nat) (σ : Sg) : FR cs σ σ := ⟨fun _ _ => rfl, rfl⟩
theorem FR.tr {cs : List Nat} {a b c : Sg} (h1 : FR cs a b) (h2 : FR cs b c) : FR cs a c := ⟨fun x hx => (h2.1 x hx).trans (h1.1 x hx), h2.2.trans h1.2⟩
theorem FR.up {cs ds : List Nat} {a b : Sg} (h : FR cs a b) (hs : ∀ c, c ∈ cs → c ∈ ds) : FR ds a b := ⟨fun x hx => h.1 x (fun q => hx (hs x q)), h.2⟩
theorem FR.w {cs : List Nat} (σ : Sg) {c : Nat} (o i : Nat) (v : Int32) (hc : c ∈ cs) : FR cs σ (wI σ c o i v) := ⟨fun x hx => by
  have hne : x ≠ c := fun e => hx (e ▸ hc)
  funext o' i'
  rw [wI_1, if_neg (fun q => hne q.1)], rfl⟩
theorem FR.r {cs : List Nat} (σ : Sg) {c : Nat} (o : Nat) (f : Nat → Int32) (hc : c ∈ cs) : FR cs σ (rowI σ c o f) := ⟨fun x hx => by
  have hne : x ≠ c := fun e => hx (e ▸ hc)
  funext o'
  rw [rowI_1, if_neg (fun q => hne q.1)], rfl⟩
theorem wI_row (σ : Sg) (c o i : Nat) (f : Nat → Int32) (v : Int32) : wI (rowI σ c o f) c o i v = rowI σ c o (upd f i v) := by
  unfold wI rowI
  refine Prod.ext ?_ rfl
  funext c' o'
  dsimp only
  by_cases h : c' = c ∧ o' = o
  · simp [h]
  · simp [h]
theorem row_self (σ : Sg) (c o : Nat) : rowI σ c o (σ.1 c o) = σ := by
  unfold rowI
  refine Prod.ext ?_ rfl
  funext c' o'
  dsimp only
  split
  · rename_i h; rw [h.1, h.2]
  · rfl
theorem q_fill (σ : Sg) (c o : Nat) {n : Nat} (x : Int32) (hn : n < 1000) : m_J7_fill_53178 σ c o n x = some (rowI σ c o (fun j => if j < n then x else σ.1 c o j)) := by
  have key : ∀ k i, i ≤ n → n - i < k → m_J7_fill_53178_5 c o n x k (rowI σ c o (fun j => if j < i then x else σ.1 c o j)) (nI i) (nI n) = some (rowI σ c o (fun j => if j < n then x else σ.1 c o j)) := by
    intro k
    induction k with
    | zero => intro i _ h; omega
    | succ k ih =>
      intro i hi hk
      rw [m_J7_fill_53178_5]
      by_cases h : i = n
      · subst h
        rw [if_pos (by rw [nI_leI (by omega) (by omega)]; omega)]
      · rw [if_neg (by rw [nI_leI (by omega) (by omega)]; omega), chk_e (inb_nI (by omega) (by omega))]
        unfold st
        rw [cl_nI (by omega), wI_row, nI_1]
        have e : upd (fun j => if j < i then x else σ.1 c o j) i x = fun j => if j < i + 1 then x else σ.1 c o j := by
          funext j
          unfold upd
          dsimp only
          by_cases h1 : j = i
          · subst h1; simp
          · rw [if_neg h1]
            by_cases h2 : j < i
            · rw [if_pos h2, if_pos (by omega)]
            · rw [if_neg h2, if_neg (by omega)]
        rw [e]
        exact ih (i + 1) (by omega) (by omega)
  have h0 := key 1000 0 (by omega) (by omega)
  have e0 : rowI σ c o (fun j => if j < 0 then x else σ.1 c o j) = σ := by
    have : (fun j => if j < 0 then x else σ.1 c o j) = σ.1 c o := by funext j; simp
    rw [this, row_self]
  rw [e0] at h0
  exact h0
theorem q_clear (σ : Sg) (c o : Nat) : m_X10_clear σ c o = some (rowI σ c o (fun j => if j < 128 then 0 else σ.1 c o j)) := by
  have key : ∀ k i, i ≤ 128 → 128 - i < k → m_X10_clear_2 c o k (rowI σ c o (fun j => if j < i then 0 else σ.1 c o j)) (nI i) = some (rowI σ c o (fun j => if j < 128 then 0 else σ.1 c o j)) := by
    intro k
    induction k with
    | zero => intro i _ h; omega
    | succ k ih =>
      intro i hi hk
      rw [m_X10_clear_2]
      by_cases h : i = 128
      · subst h
        rw [if_pos (by decide)]
      · rw [if_neg (by rw [show (128 : Int32) = nI 128 from rfl, nI_leI (by omega) (by omega)]; omega), chk_e (inb_nI (by omega) (by omega))]
        unfold st
        rw [cl_nI (by omega), wI_row, nI_1]
        have e : upd (fun j => if j < i then 0 else σ.1 c o j) i 0 = fun j => if j < i + 1 then 0 else σ.1 c o j := by
          funext j
          unfold upd
          dsimp only
          by_cases h1 : j = i
          · subst h1; simp
          · rw [if_neg h1]
            by_cases h2 : j < i
            · rw [if_pos h2, if_pos (by omega)]
            · rw [if_neg h2, if_neg (by omega)]
        rw [e]
        exact ih (i + 1) (by omega) (by omega)
  have h0 := key 1000 0 (by omega) (by omega)
  have e0 : rowI σ c o (fun j => if j < 0 then 0 else σ.1 c o j) = σ := by
    have : (fun j => if j < 0 then (0 : Int32) else σ.1 c o j) = σ.1 c o := by funext j; simp
    rw [this, row_self]
  rw [e0] at h0
  exact h0
/-- the text: how many imports, an import; its ranges -/
def cnt (σ : Sg) (t m : Nat) : Nat := (σ.1 28 t m).toNatClampNeg
def imp (σ : Sg) (t m k : Nat) : Int32 := σ.1 27 t (m * 5 + k)
def TX (σ : Sg) (t : Nat) : Prop := (∀ m, m < 8 → cnt σ t m ≤ 5 ∧ σ.1 28 t m = nI (cnt σ t m)) ∧ (∀ m k, m < 8 → k < cnt σ t m → impName (imp σ t m k) ≤ 16) ∧ ∀ s, s < 128 → ¬ σ.1 26 t s = 0 → refN (σ.1 26 t s) 0 ≤ 16 ∧ refN (σ.1 26 t s) 1 ≤ 16
def MC (σ : Sg) (mc : Nat) : Prop := σ.1 29 0 0 = nI mc ∧ mc ≤ 8
def isN (nm : Nat) (x : Int32) : Bool := decide (¬ impName x = 0) && decide (impUnder x = nm)
def isNA (nm : Nat) (x : Int32) : Bool := isN nm x && bt x 12
def isA (x : Int32) : Bool := decide (impName x = 0)
def isAA (x : Int32) : Bool := isA x && bt x 12
def srcOf (x : Int32) : Nat := impFrom x * 16 + impName x - 1
/-- of the last d of c imports: what the first of them with p looks for -/
def srcG (p : Int32 → Bool) (im : Nat → Int32) (c : Nat) : Nat → Int32
  | 0 => -1
  | d + 1 => if p (im (c - (d + 1))) = true then nI (srcOf (im (c - (d + 1)))) else srcG p im c d
def allG (q : Int32 → Bool) (im : Nat → Int32) (c : Nat) : Nat → Nat → Bool
  | 0, _ => false
  | d + 1, f => allG q im c d f || (q (im (c - (d + 1))) && decide (f = impFrom (im (c - (d + 1)))))
theorem srcG_of (p : Int32 → Bool) (im : Nat → Int32) (c : Nat) : ∀ d, d ≤ c → srcG p im c d = -1 ∨ ∃ k, k < c ∧ p (im k) = true ∧ srcG p im c d = nI (srcOf (im k))
  | 0, _ => Or.inl rfl
  | d + 1, h => by
    rw [srcG]
    by_cases hp : p (im (c - (d + 1))) = true
    · rw [if_pos hp]
      exact Or.inr ⟨c - (d + 1), by omega, hp, rfl⟩
    · rw [if_neg hp]
      exact srcG_of p im c d (by omega)
theorem allG_of (q : Int32 → Bool) (im : Nat → Int32) (c f : Nat) : ∀ d, d ≤ c → allG q im c d f = true → ∃ k, k < c ∧ q (im k) = true ∧ f = impFrom (im k)
  | 0, _, h => by cases h
  | d + 1, hd, h => by
    rw [allG, Bool.or_eq_true, Bool.and_eq_true, decide_eq_true_eq] at h
    rcases h with h | ⟨h1, h2⟩
    · exact allG_of q im c f d (by omega) h
    · exact ⟨c - (d + 1), by omega, h1, h2⟩
/-- the state of the imports' rows: modules below m whole, of m the last d imports -/
def SI (σ0 σ' : Sg) (m d : Nat) : Prop :=
  FR [9, 10, 11, 12] σ0 σ' ∧
  (∀ m' nm, m' < 8 → nm < 16 → σ'.1 9 0 (m' * 16 + nm) = if m' < m then srcG (isN nm) (imp σ0 0 m') (cnt σ0 0 m') (cnt σ0 0 m') else if m' = m then srcG (isN nm) (imp σ0 0 m) (cnt σ0 0 m) d else -1) ∧
  (∀ m' nm, m' < 8 → nm < 16 → σ'.1 10 0 (m' * 16 + nm) = if m' < m then srcG (isNA nm) (imp σ0 0 m') (cnt σ0 0 m') (cnt σ0 0 m') else if m' = m then srcG (isNA nm) (imp σ0 0 m) (cnt σ0 0 m) d else -1) ∧
  (∀ m' f, m' < 8 → f < 32 → bt (σ'.1 11 0 m') f = if m' < m then allG isA (imp σ0 0 m') (cnt σ0 0 m') (cnt σ0 0 m') f else if m' = m then allG isA (imp σ0 0 m) (cnt σ0 0 m) d f else false) ∧
  ∀ m' f, m' < 8 → f < 32 → bt (σ'.1 12 0 m') f = if m' < m then allG isAA (imp σ0 0 m') (cnt σ0 0 m') (cnt σ0 0 m') f else if m' = m then allG isAA (imp σ0 0 m) (cnt σ0 0 m) d f else false
theorem srcOf_lt {x : Int32} (h : impName x ≤ 16) : srcOf x < 128 := by
  have := impFrom_lt x
  unfold srcOf; omega
theorem add_m1 (x : Int32) : x + (-1) = x - 1 := by rw [Int32.sub_eq_add_neg]
theorem wI_slot (σ : Sg) (c m u : Nat) (v : Int32) (m' nm : Nat) (hu : u < 16) (hnm : nm < 16) : (wI σ c 0 (m * 16 + u) v).1 c 0 (m' * 16 + nm) = if m' = m ∧ nm = u then v else σ.1 c 0 (m' * 16 + nm) := by
  rw [wI_1]
  by_cases h : m' = m ∧ nm = u
  · rw [if_pos h, if_pos ⟨rfl, rfl, by rw [h.1, h.2]⟩]
  · rw [if_neg h, if_neg (fun q => h (by omega))]
theorem wI_ne (σ : Sg) {c c' : Nat} (o i : Nat) (v : Int32) (o' i' : Nat) (h : c' ≠ c) : (wI σ c o i v).1 c' o' i' = σ.1 c' o' i' := by
  rw [wI_1, if_neg (fun q => h q.1)]
theorem s_import {σ0 σ' : Sg} {m d : Nat} (hm : m < 8) (hd : d < cnt σ0 0 m) (hS : SI σ0 σ' m d) (hr : impName (imp σ0 0 m (cnt σ0 0 m - (d + 1))) ≤ 16) :
    ok (fun σ1 => SI σ0 σ1 m (d + 1)) (m_X4_settleImport σ' (nI m) (imp σ0 0 m (cnt σ0 0 m - (d + 1)))) := by
  obtain ⟨hF, h9, h10, h11, h12⟩ := hS
  have hf := impFrom_lt (imp σ0 0 m (cnt σ0 0 m - (d + 1)))
  have hu := impUnder_lt (imp σ0 0 m (cnt σ0 0 m - (d + 1)))
  have e9 : ∀ nm, srcG (isN nm) (imp σ0 0 m) (cnt σ0 0 m) (d + 1) = if isN nm (imp σ0 0 m (cnt σ0 0 m - (d + 1))) = true then nI (srcOf (imp σ0 0 m (cnt σ0 0 m - (d + 1)))) else srcG (isN nm) (imp σ0 0 m) (cnt σ0 0 m) d := fun nm => rfl
  have e10 : ∀ nm, srcG (isNA nm) (imp σ0 0 m) (cnt σ0 0 m) (d + 1) = if isNA nm (imp σ0 0 m (cnt σ0 0 m - (d + 1))) = true then nI (srcOf (imp σ0 0 m (cnt σ0 0 m - (d + 1)))) else srcG (isNA nm) (imp σ0 0 m) (cnt σ0 0 m) d := fun nm => rfl
  have e11 : ∀ f, allG isA (imp σ0 0 m) (cnt σ0 0 m) (d + 1) f = (allG isA (imp σ0 0 m) (cnt σ0 0 m) d f || (isA (imp σ0 0 m (cnt σ0 0 m - (d + 1))) && decide (f = impFrom (imp σ0 0 m (cnt σ0 0 m - (d + 1)))))) := fun f => rfl
  have e12 : ∀ f, allG isAA (imp σ0 0 m) (cnt σ0 0 m) (d + 1) f = (allG isAA (imp σ0 0 m) (cnt σ0 0 m) d f || (isAA (imp σ0 0 m (cnt σ0 0 m - (d + 1))) && decide (f = impFrom (imp σ0 0 m (cnt σ0 0 m - (d + 1)))))) := fun f => rfl
  unfold SI
  simp only [e9, e10, e11, e12]
  generalize hx : imp σ0 0 m (cnt σ0 0 m - (d + 1)) = x at hr hf hu ⊢
  unfold m_X4_settleImport
  rw [q_again, bnd_s, q_ofAll, bnd_s]
  by_cases hn : impName x = 0
  · have a1 : isA x = true := decide_eq_true hn
    have a2 : ∀ nm, isN nm x = false := fun nm => by unfold isN; rw [decide_eq_false (fun h => h hn)]; rfl
    have a3 : ∀ nm, isNA nm x = false := fun nm => by unfold isNA; rw [a2]; rfl
    simp (disch := omega) only [if_pos hn, q_from, bnd_s, st_s, chk_n, cl_nI, ite_01, a1, a2, a3, Bool.false_eq_true, if_false, if_true, reduceIte]
    have ho : ∀ z : Int32, z ||| 0 = z := fun z => by apply b_ext; intro i _; rw [b_or, b_0, Bool.or_false]
    have hone : ∀ i, i < 32 → bt ((1 : Int32) <<< (nI (impFrom x) &&& 31)) i = decide (i = impFrom x) := fun i hi => bt_one _ (by omega) hi
    generalize (1 : Int32) <<< (nI (impFrom x) &&& 31) = w at hone ⊢
    by_cases h12x : bt x 12 = true
    · have a4 : isAA x = true := by unfold isAA; rw [a1, h12x]; rfl
      rw [if_neg (by decide), if_pos h12x]
      refine ok_r ⟨(hF.tr (FR.w _ 0 m _ (by decide))).tr (FR.w _ 0 m _ (by decide)), ?_, ?_, ?_, ?_⟩
      · intro m' nm hm' hnm
        rw [wI_ne _ _ _ _ _ _ (by decide), wI_ne _ _ _ _ _ _ (by decide), h9 m' nm hm' hnm]
      · intro m' nm hm' hnm
        rw [wI_ne _ _ _ _ _ _ (by decide), wI_ne _ _ _ _ _ _ (by decide), h10 m' nm hm' hnm]
      · intro m' f hm' hf'
        rw [wI_ne _ _ _ _ _ _ (by decide), wI_1]
        by_cases e : m' = m
        · subst e
          rw [if_pos ⟨rfl, rfl, rfl⟩, b_or, h11 m' f hm' hf', hone f hf']
          simp
        · rw [if_neg (fun q => e q.2.2), h11 m' f hm' hf']
          simp [e]
      · intro m' f hm' hf'
        rw [wI_1]
        by_cases e : m' = m
        · subst e
          rw [if_pos ⟨rfl, rfl, rfl⟩, b_or, wI_ne _ _ _ _ _ _ (by decide), h12 m' f hm' hf', hone f hf']
          simp [a4]
        · rw [if_neg (fun q => e q.2.2), wI_ne _ _ _ _ _ _ (by decide), h12 m' f hm' hf']
          simp [e]
    · have a4 : isAA x = false := by unfold isAA; simp [h12x]
      rw [if_neg (by decide), if_neg h12x]
      refine ok_r ⟨(hF.tr (FR.w _ 0 m _ (by decide))).tr (FR.w _ 0 m _ (by decide)), ?_, ?_, ?_, ?_⟩
      · intro m' nm hm' hnm
        rw [wI_ne _ _ _ _ _ _ (by decide), wI_ne _ _ _ _ _ _ (by decide), h9 m' nm hm' hnm]
      · intro m' nm hm' hnm
        rw [wI_ne _ _ _ _ _ _ (by decide), wI_ne _ _ _ _ _ _ (by decide), h10 m' nm hm' hnm]
      · intro m' f hm' hf'
        rw [wI_ne _ _ _ _ _ _ (by decide), wI_1]
        by_cases e : m' = m
        · subst e
          rw [if_pos ⟨rfl, rfl, rfl⟩, b_or, h11 m' f hm' hf', hone f hf']
          simp
        · rw [if_neg (fun q => e q.2.2), h11 m' f hm' hf']
          simp [e]
      · intro m' f hm' hf'
        rw [wI_1]
        by_cases e : m' = m
        · subst e
          rw [if_pos ⟨rfl, rfl, rfl⟩, ho, wI_ne _ _ _ _ _ _ (by decide), h12 m' f hm' hf']
          simp [a4]
        · rw [if_neg (fun q => e q.2.2), wI_ne _ _ _ _ _ _ (by decide), h12 m' f hm' hf']
          simp [e]
  · have a1 : isA x = false := decide_eq_false hn
    have a2 : isAA x = false := by unfold isAA; rw [a1]; rfl
    have a3 : ∀ nm, isN nm x = decide (impUnder x = nm) := fun nm => by unfold isN; rw [decide_eq_true hn]; rfl
    have hs : impFrom x * 16 + impName x - 1 = srcOf x := rfl
    simp (disch := omega) only [if_neg hn, q_under, q_source σ' hn, bnd_s, st_s, chk_n, cl_nI, ite_01, a1, a2, ix16, Bool.false_eq_true, if_false, if_true, reduceIte, hs]
    by_cases h12x : bt x 12 = true
    · have a4 : ∀ nm, isNA nm x = decide (impUnder x = nm) := fun nm => by unfold isNA; rw [a3, h12x, Bool.and_true]
      rw [if_pos h12x]
      refine ok_r ⟨(hF.tr (FR.w _ 0 _ _ (by decide))).tr (FR.w _ 0 _ _ (by decide)), ?_, ?_, ?_, ?_⟩
      · intro m' nm hm' hnm
        rw [wI_ne _ _ _ _ _ _ (by decide), wI_slot _ _ _ _ _ _ _ hu hnm, h9 m' nm hm' hnm, a3]
        grind
      · intro m' nm hm' hnm
        rw [wI_slot _ _ _ _ _ _ _ hu hnm, wI_slot _ _ _ _ _ _ _ hu hu, wI_ne _ _ _ _ _ _ (by decide), h10 m' nm hm' hnm, a4]
        grind
      · intro m' f hm' hf'
        rw [wI_ne _ _ _ _ _ _ (by decide), wI_ne _ _ _ _ _ _ (by decide), h11 m' f hm' hf']
        simp
      · intro m' f hm' hf'
        rw [wI_ne _ _ _ _ _ _ (by decide), wI_ne _ _ _ _ _ _ (by decide), h12 m' f hm' hf']
        simp
    · have a4 : ∀ nm, isNA nm x = false := fun nm => by unfold isNA; simp [h12x]
      rw [if_neg h12x]
      refine ok_r ⟨hF.tr (FR.w _ 0 _ _ (by decide)), ?_, ?_, ?_, ?_⟩
      · intro m' nm hm' hnm
        rw [wI_slot _ _ _ _ _ _ _ hu hnm, h9 m' nm hm' hnm, a3]
        grind
      · intro m' nm hm' hnm
        rw [wI_ne _ _ _ _ _ _ (by decide), h10 m' nm hm' hnm, a4]
        simp
      · intro m' f hm' hf'
        rw [wI_ne _ _ _ _ _ _ (by decide), h11 m' f hm' hf']
        simp
      · intro m' f hm' hf'
        rw [wI_ne _ _ _ _ _ _ (by decide), h12 m' f hm' hf']
        simp
/-- behind settleImports -/
def SIN (σ0 σ' : Sg) (mc : Nat) : Prop :=
  FR [9, 10, 11, 12] σ0 σ' ∧
  (∀ m' nm, m' < mc → nm < 16 → σ'.1 9 0 (m' * 16 + nm) = srcG (isN nm) (imp σ0 0 m') (cnt σ0 0 m') (cnt σ0 0 m')) ∧
  (∀ m' nm, m' < mc → nm < 16 → σ'.1 10 0 (m' * 16 + nm) = srcG (isNA nm) (imp σ0 0 m') (cnt σ0 0 m') (cnt σ0 0 m')) ∧
  (∀ m' f, m' < mc → f < 32 → bt (σ'.1 11 0 m') f = allG isA (imp σ0 0 m') (cnt σ0 0 m') (cnt σ0 0 m') f) ∧
  ∀ m' f, m' < mc → f < 32 → bt (σ'.1 12 0 m') f = allG isAA (imp σ0 0 m') (cnt σ0 0 m') (cnt σ0 0 m') f
theorem s_imports {σ0 : Sg} {mc : Nat} (hT : TX σ0 0) (hM : MC σ0 mc) : ok (fun σ1 => SIN σ0 σ1 mc) (m_X4_settleImports σ0) := by
  obtain ⟨hM1, hM2⟩ := hM
  -- the inner loop
  have inner : ∀ (m : Nat) (k34 : Sg → Int32 → Option Sg), m < mc → (∀ σ1, SI σ0 σ1 m (cnt σ0 0 m) → ok (fun σ1 => SIN σ0 σ1 mc) (k34 σ1 (nI (m + 1)))) →
      ∀ n d σ', d ≤ cnt σ0 0 m → cnt σ0 0 m - d < n → SI σ0 σ' m d → ok (fun σ1 => SIN σ0 σ1 mc) (m_X4_settleImports_57 k34 n σ' (nI m) (nI (cnt σ0 0 m - d) - 1)) := by
    intro m k34 hm hk n
    have hc5 := (hT.1 m (by omega)).1
    induction n with
    | zero => intro d σ' _ h; omega
    | succ n ih =>
      intro d σ' hd hn hS
      rw [m_X4_settleImports_57]
      by_cases e : d = cnt σ0 0 m
      · subst e
        rw [Nat.sub_self, if_pos (by decide), nI_1]
        exact hk σ' hS
      · have h28 : ∀ t a b, imp σ' t a b = imp σ0 t a b := fun t a b => by unfold imp; rw [hS.1.1 27 (by decide)]
        rw [sub_1 (by omega), if_neg (by rw [ltz (by omega)]; exact fun h => h), q_imp σ' 0 (by omega) (by omega), bnd_s]
        have hx : σ'.1 27 0 (m * 5 + (cnt σ0 0 m - d - 1)) = imp σ0 0 m (cnt σ0 0 m - (d + 1)) := by
          rw [← h28]; unfold imp; rw [Nat.sub_sub]
        rw [hx]
        refine ok_b (s_import (by omega) (by omega) hS (hT.2.1 m _ (by omega) (by omega))) (fun σ1 h1 => ?_)
        have h2 := ih (d + 1) σ1 (by omega) (by omega) h1
        rw [add_m1, Nat.sub_sub]
        exact h2
  have outer : ∀ n m σ', m ≤ mc → mc - m < n → SI σ0 σ' m 0 → ok (fun σ1 => SIN σ0 σ1 mc) (m_X4_settleImports_34 n σ' (nI m)) := by
    intro n
    induction n with
    | zero => intro m σ' _ h; omega
    | succ n ih =>
      intro m σ' hm hn hS
      rw [m_X4_settleImports_34, show σ'.1 29 0 0 = nI mc from by rw [hS.1.1 29 (by decide)]; exact hM1]
      by_cases e : m = mc
      · subst e
        rw [if_pos (by rw [nI_leI (by omega) (by omega)]; omega)]
        obtain ⟨hF, h9, h10, h11, h12⟩ := hS
        exact ok_r ⟨hF, fun m' nm a b => by rw [h9 m' nm (by omega) b, if_pos a], fun m' nm a b => by rw [h10 m' nm (by omega) b, if_pos a], fun m' f a b => by rw [h11 m' f (by omega) b, if_pos a], fun m' f a b => by rw [h12 m' f (by omega) b, if_pos a]⟩
      · rw [if_neg (by rw [nI_leI (by omega) (by omega)]; omega), chk_n (by omega) (by omega), cl_nI (by omega)]
        have hc : σ'.1 28 0 m = nI (cnt σ0 0 m) := by rw [hS.1.1 28 (by decide)]; exact (hT.1 m (by omega)).2
        rw [hc]
        have h2 := inner m (m_X4_settleImports_34 n) (by omega) (fun σ1 h1 => ih (m + 1) σ1 (by omega) (by omega) (by
          obtain ⟨hF, h9, h10, h11, h12⟩ := h1
          refine ⟨hF, fun m' nm a b => ?_, fun m' nm a b => ?_, fun m' f a b => ?_, fun m' f a b => ?_⟩
          · rw [h9 m' nm a b]; simp only [srcG]; grind
          · rw [h10 m' nm a b]; simp only [srcG]; grind
          · rw [h11 m' f a b]; simp only [allG]; grind
          · rw [h12 m' f a b]; simp only [allG]; grind)) 1000 0 σ' (by omega) (by have := (hT.1 m (by omega)).1; omega) hS
        rw [Nat.sub_zero] at h2
        exact h2
  unfold m_X4_settleImports
  rw [q_fill _ _ _ _ (by decide), bnd_s, q_fill _ _ _ _ (by decide), bnd_s, q_fill _ _ _ _ (by decide), bnd_s, q_fill _ _ _ _ (by decide), bnd_s]
  refine outer 1000 0 _ (by omega) (by omega) ⟨(((FR.r _ 0 _ (by decide)).tr (FR.r _ 0 _ (by decide))).tr (FR.r _ 0 _ (by decide))).tr (FR.r _ 0 _ (by decide)), fun m' nm a b => ?_, fun m' nm a b => ?_, fun m' f a b => ?_, fun m' f a b => ?_⟩
  · simp [rowI_1, srcG, show m' * 16 + nm < 128 by omega]
  · simp [rowI_1, srcG, show m' * 16 + nm < 128 by omega]
  · simp [rowI_1, allG, a, b_0]
  · simp [rowI_1, allG, a, b_0]
