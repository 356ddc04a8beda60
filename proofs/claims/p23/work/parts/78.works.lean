/-! MAKING: works. Laid by wip/p23/mkworks.py -/
/-- cell q of a result made at a -/
def rs (n0 : Nat) (Γ : GG) (a q : Nat) : va_E := if q = 0 then .inr (2, robj n0 (a + 1)) else rcell n0 Γ (a + 1) 128 (q - 1)
def refU (k : Nat) (g : Nat → Nat) : Nat → Option Nat := fun z => if z < k then some (g z) else none
theorem refU_z (g : Nat → Nat) : refU 0 g = fun _ => none := by
  funext z
  unfold refU
  rw [if_neg (by omega)]
theorem refU_up (k : Nat) (g : Nat → Nat) : va_up (refU k g) k (some (g k)) = refU (k + 1) g := by
  funext j
  unfold va_up refU
  by_cases h : j = k
  · subst h; rw [if_pos rfl, if_pos (by omega)]
  · rw [if_neg h]
    by_cases h2 : j < k
    · rw [if_pos h2, if_pos (by omega)]
    · rw [if_neg h2, if_neg (by omega)]
/-- the cells of a works made from b on: a of the last ones set, k of the pool -/
def wcell (n0 : Nat) (Γ : GG) (b K a k : Nat) : Nat → va_E := fun t =>
  if t = 0 then .inl (Γ.2.1 3, 8, .inr (.inr (.inr (.inr (refU a (fun _ => n0 + (b + 3)))))))
  else if t = 1 then .inr (4, [.ref (n0 + (b + 2)), .int 0])
  else if t = 2 then .inl (Γ.2.1 3, K, .inr (.inr (.inr (.inr (fun _ => none)))))
  else if t < 16 then rs n0 Γ (b + 3) (t - 3)
  else if t = 16 then .inl (Γ.2.1 3, K + 9, .inr (.inr (.inr (.inr (refU k (fun z => n0 + (b + 17 + 13 * z)))))))
  else rs n0 Γ (b + 17 + 13 * ((t - 17) / 13)) ((t - 17) % 13)
theorem wcell_res {n0 b K a k r q : Nat} {Γ : GG} (hq : q < 13) : wcell n0 Γ b K a k (17 + 13 * r + q) = rs n0 Γ (b + 17 + 13 * r) q := by
  unfold wcell
  rw [if_neg (by omega), if_neg (by omega), if_neg (by omega), if_neg (by omega), if_neg (by omega), show (17 + 13 * r + q - 17) / 13 = r by omega, show (17 + 13 * r + q - 17) % 13 = q by omega]
theorem wcell_k {n0 b K a k k' t : Nat} {Γ : GG} (ht : ¬ t = 16) : wcell n0 Γ b K a k t = wcell n0 Γ b K a k' t := by
  unfold wcell
  rw [if_neg ht, if_neg ht]
theorem wcell_a {n0 b K a a' k t : Nat} {Γ : GG} (ht : ¬ t = 0) : wcell n0 Γ b K a k t = wcell n0 Γ b K a' k t := by
  unfold wcell
  rw [if_neg ht, if_neg ht]
def cWp (n0 : Nat) (Γ : GG) (b i K a k : Nat) (ob : List Value) (C : Nat → va_E) : Nat → va_E := fun j => if j = i then .inr (6, ob) else if j < b then C j else wcell n0 Γ b K a k (j - b)
theorem cWp_eq (n0 : Nat) (Γ : GG) (b i K a k : Nat) (ob : List Value) (C : Nat → va_E) : cWp n0 Γ b i K a k ob C i = .inr (6, ob) := if_pos rfl
theorem cWp_ne {n0 b i K a k j : Nat} {Γ : GG} {ob : List Value} {C : Nat → va_E} (h1 : ¬ j = i) (h2 : j < b) : cWp n0 Γ b i K a k ob C j = C j := by unfold cWp; rw [if_neg h1, if_pos h2]
theorem cWp_at {n0 b i K a k : Nat} {Γ : GG} {ob : List Value} {C : Nat → va_E} (hi : i < b) (t : Nat) : cWp n0 Γ b i K a k ob C (b + t) = wcell n0 Γ b K a k t := by unfold cWp; rw [if_neg (by omega), if_neg (by omega), show b + t - b = t by omega]
section WLOOPS
variable {p : Program} {l : Launch} {e : Env} {R : Room} {s : State} {m : MethodId} {args : Array Value} {below : List Frame} {meth : Method} {c : Code} {cells slots : Nat} {Q : State → Prop}
variable {n0 b i K a k : Nat} {Γ : GG} {C : Nat → va_E} {x : Int32}

set_option maxHeartbeats 4000000 in
set_option maxRecDepth 100000 in
/-- the last ones are what is not built -/
theorem w_loop1 {ob : List Value} {nxv : Value} (X : MN Γ p s m args meth c cX9_init 6 RX9 "<init>") (hi : i < b) (hob5 : ob[5]? = some (.ref (n0 + b))) (hob6 : ob[6]? = some (.ref (n0 + (b + 3)))) (kk : ∀ (H : Heap) (locs : List Loc) (ls : Array Slot), HN n0 Γ (cWp n0 Γ b i K 8 0 ob C) (b + 16) s.heap H locs cells → lv_has ls 6 [(5, .int (nI 8)), (0, .ref (n0 + i)), (2, nxv), (4, .int x)] → W p l e R s m args below meth c H locs cells slots Q (F0 m 79 ls [])) : ∀ d a, a + d = 8 → ∀ (H : Heap) (locs : List Loc) (ls : Array Slot), HN n0 Γ (cWp n0 Γ b i K a 0 ob C) (b + 16) s.heap H locs cells → lv_has ls 6 [(5, .int (nI a)), (0, .ref (n0 + i)), (2, nxv), (4, .int x)] → W p l e R s m args below meth c H locs cells slots Q (F0 m 55 ls []) := by
  have hx := X.1.1
  have hb := X.1.2.1
  intro d
  induction d with
  | zero =>
    intro a ha H locs ls hH hl
    have ha : a = 8 := by omega
    subst ha
    refine lv_iload hx hb dX9_init_55 (lv_at hl 0 rfl) ?_
    refine lv_bipush (v := 8) hx hb dX9_init_57 (by decide) ?_
    refine lv_icmp_ge (tgt := 79) hx hb dX9_init_59 (by decide) (fun _ => ?_) (fun hc => absurd (show (8 : Int32) ≤ nI 8 by decide) hc)
    exact kk _ _ _ hH hl
  | succ d ih =>
    intro a ha H locs ls hH hl
    refine lv_iload hx hb dX9_init_55 (lv_at hl 0 rfl) ?_
    refine lv_bipush (v := 8) hx hb dX9_init_57 (by decide) ?_
    refine lv_icmp_ge (tgt := 79) hx hb dX9_init_59 (by decide) (fun hc => absurd hc (by rw [le_8 (by omega)]; omega)) (fun _ => ?_)
    refine lv_aload_n hx hb dX9_init_62 rfl (lv_at hl 1 rfl) ?_
    refine n_get X hH (i := i) (T := TX9) (fs := ob) (by omega) (cWp_eq ..) rfl inlX9 5 (by decide) (v := .ref (n0 + b)) hob5 (List.mem_of_getElem? (i := 63) (by decide +kernel)) dX9_init_63 ?_
    refine lv_iload hx hb dX9_init_66 (lv_at hl 0 rfl) ?_
    refine lv_aload_n hx hb dX9_init_68 rfl (lv_at hl 1 rfl) ?_
    refine n_get X hH (i := i) (T := TX9) (fs := ob) (by omega) (cWp_eq ..) rfl inlX9 6 (by decide) (v := .ref (n0 + (b + 3))) hob6 (List.mem_of_getElem? (i := 73) (by decide +kernel)) dX9_init_69 ?_
    refine n_ast X hH (i := b) (k := b + 3) (n := 8) (f := refU a (fun _ => n0 + (b + 3))) (vs := robj n0 (b + 3 + 1)) (by omega) (cWp_at hi 0) (by omega) (cWp_at hi 3) (inb_nI (by omega) (by omega)) dX9_init_72 (fun H locs hH => ?_)
    refine lv_iinc (v := nI (a + 1)) (lv' := [(5, .int (nI (a + 1))), (0, .ref (n0 + i)), (2, nxv), (4, .int x)]) hx hb dX9_init_73 hl (k := 0) rfl (by rw [← nI_1]; rfl) (by decide) rfl (fun ls hl => ?_)
    refine lv_goto (tgt := 55) hx hb dX9_init_76 (by decide) ?_
    refine ih (a + 1) (by omega) _ _ _ (hH.c (fun j hj => ?_)) hl
    by_cases h1 : j = i
    · subst h1
      rw [updE_ne (by omega), cWp_eq, cWp_eq]
    · by_cases h2 : j < b
      · rw [updE_ne (by omega), cWp_ne h1 h2, cWp_ne h1 h2]
      · obtain ⟨t, rfl⟩ : ∃ t, j = b + t := ⟨j - b, by omega⟩
        rw [cWp_at hi]
        by_cases h3 : t = 0
        · subst h3
          rw [show b + 0 = b from rfl, updE_eq, cl_nI (by omega), refU_up a (fun _ => n0 + (b + 3))]
          rfl
        · rw [updE_ne (by omega), cWp_at hi, wcell_a h3]
set_option maxHeartbeats 4000000 in
set_option maxRecDepth 100000 in
/-- the pool is filled -/
theorem w_loop2 {ob : List Value} {nxv : Value} (X : MN Γ p s m args meth c cX9_init 6 RX9 "<init>") (hi : i < b) (hK : K ≤ 10) (hob7 : ob[7]? = some (.ref (n0 + (b + 16)))) (hR : 17 + 13 * (K + 9) ≤ R.cells ∧ slots + 1214 * (K + 9) ≤ R.slots ∧ 3 ≤ R.frames ∧ 66 ≤ R.locals) (kk : ∀ (H : Heap) (locs : List Loc) (ls : Array Slot), HN n0 Γ (cWp n0 Γ b i K 8 (K + 9) ob C) (b + 17 + 13 * (K + 9)) s.heap H locs (17 + 13 * (K + 9)) → lv_has ls 6 [(5, .int (nI (K + 9))), (0, .ref (n0 + i)), (2, nxv)] → W p l e R s m args below meth c H locs (17 + 13 * (K + 9)) (slots + 1214 * (K + 9)) Q (F0 m 126 ls [])) : ∀ d k, k + d = K + 9 → ∀ (H : Heap) (locs : List Loc) (ls : Array Slot), HN n0 Γ (cWp n0 Γ b i K 8 k ob C) (b + 17 + 13 * k) s.heap H locs (17 + 13 * k) → lv_has ls 6 [(5, .int (nI k)), (0, .ref (n0 + i)), (2, nxv)] → W p l e R s m args below meth c H locs (17 + 13 * k) (slots + 1214 * k) Q (F0 m 96 ls []) := by
  have hx := X.1.1
  have hb := X.1.2.1
  intro d
  induction d with
  | zero =>
    intro k hk H locs ls hH hl
    have hk : k = K + 9 := by omega
    subst hk
    refine lv_iload hx hb dX9_init_96 (lv_at hl 0 rfl) ?_
    refine lv_aload_n hx hb dX9_init_98 rfl (lv_at hl 1 rfl) ?_
    refine n_get X hH (i := i) (T := TX9) (fs := ob) (by omega) (cWp_eq ..) rfl inlX9 7 (by decide) (v := .ref (n0 + (b + 16))) hob7 (List.mem_of_getElem? (i := 74) (by decide +kernel)) dX9_init_99 ?_
    refine n_lenq X hH (i := b + 16) (n := K + 9) (f := refU (K + 9) (fun z => n0 + (b + 17 + 13 * z))) (by omega) (cWp_at hi 16) rfl dX9_init_102 ?_
    refine lv_icmp_ge (tgt := 126) hx hb dX9_init_103 (by decide) (fun _ => ?_) (fun hc => absurd (show nI (K + 9) ≤ nI (K + 9) by rw [le_n (by omega) (by omega)]; omega) hc)
    exact kk _ _ _ hH hl
  | succ d ih =>
    intro k hk H locs ls hH hl
    refine lv_iload hx hb dX9_init_96 (lv_at hl 0 rfl) ?_
    refine lv_aload_n hx hb dX9_init_98 rfl (lv_at hl 1 rfl) ?_
    refine n_get X hH (i := i) (T := TX9) (fs := ob) (by omega) (cWp_eq ..) rfl inlX9 7 (by decide) (v := .ref (n0 + (b + 16))) hob7 (List.mem_of_getElem? (i := 74) (by decide +kernel)) dX9_init_99 ?_
    refine n_lenq X hH (i := b + 16) (n := K + 9) (f := refU k (fun z => n0 + (b + 17 + 13 * z))) (by omega) (cWp_at hi 16) rfl dX9_init_102 ?_
    refine lv_icmp_ge (tgt := 126) hx hb dX9_init_103 (by decide) (fun hc => absurd (show nI (K + 9) ≤ nI k from hc) (by rw [le_n (by omega) (by omega)]; omega)) (fun _ => ?_)
    refine lv_aload_n hx hb dX9_init_106 rfl (lv_at hl 1 rfl) ?_
    refine n_get X hH (i := i) (T := TX9) (fs := ob) (by omega) (cWp_eq ..) rfl inlX9 7 (by decide) (v := .ref (n0 + (b + 16))) hob7 (List.mem_of_getElem? (i := 74) (by decide +kernel)) dX9_init_107 ?_
    refine lv_iload hx hb dX9_init_110 (lv_at hl 0 rfl) ?_
    refine n_new X hH (ci := 2) (T := TX5) rfl inlX5 tyX5 tyX5_ok (List.mem_of_getElem? (i := 62) (by decide +kernel)) (List.mem_of_getElem? (i := 71) (by decide +kernel)) (List.mem_of_getElem? (i := 72) (by decide +kernel)) [.int 0, .null, .null, .null, .null, .null, .null, .null, .null, .null] (fun j hj => by rcases (show j = 0 ∨ j = 1 ∨ j = 2 ∨ j = 3 ∨ j = 4 ∨ j = 5 ∨ j = 6 ∨ j = 7 ∨ j = 8 ∨ j = 9 by omega) with rfl | rfl | rfl | rfl | rfl | rfl | rfl | rfl | rfl | rfl <;> rfl) (by omega) (by omega) dX9_init_112 (fun H hH => ?_)
    refine lv_dup hx hb dX9_init_115 rfl ?_
    refine n_callI X hl hH (i := b + 17 + 13 * k) (k := 12) (ms := 1204) (As := []) (rest := [.ref (n0 + (b + 17 + 13 * k)), .int (nI k), .ref (n0 + (b + 16))]) (n := 0) (n_X5_init l n0 Γ _ (b + 17 + 13 * k + 1) (b + 17 + 13 * k) (by omega) (by rw [updE_eq])) (List.mem_of_getElem? (i := 87) (by decide +kernel)) (List.mem_of_getElem? (i := 85) (by decide +kernel)) (List.mem_of_getElem? (i := 86) (by decide +kernel)) (List.mem_of_getElem? (i := 72) (by decide +kernel)) rfl rfl rfl (by decide +kernel) ⟨by show 2 + 1 ≤ R.frames; omega, by show 8 + (2 + 11) + 45 ≤ R.locals; omega⟩ rfl rfl (Nat.le_of_ble_eq_true rfl) dX9_init_116 ⟨by omega, by omega⟩ (fun H locs hH => ?_)
    refine n_ast X hH (i := b + 16) (k := b + 17 + 13 * k) (n := K + 9) (f := refU k (fun z => n0 + (b + 17 + 13 * z))) (vs := robj n0 (b + 17 + 13 * k + 1)) (by omega) (by rw [cRes_ne (by omega) (by omega), updE_ne (by omega)]; exact cWp_at hi 16) (by omega) (cRes_eq ..) (inb_nI (by omega) (by omega)) dX9_init_119 (fun H locs hH => ?_)
    refine lv_iinc (v := nI (k + 1)) (lv' := [(5, .int (nI (k + 1))), (0, .ref (n0 + i)), (2, nxv)]) hx hb dX9_init_120 hl (k := 0) rfl (by rw [← nI_1]; rfl) (by decide) rfl (fun ls hl => ?_)
    refine lv_goto (tgt := 96) hx hb dX9_init_123 (by decide) ?_
    refine W.widen (k := 17 + 13 * (k + 1)) (n := slots + 1214 * (k + 1)) (by omega) (by omega) ?_
    refine ih (k + 1) (by omega) _ _ _ ?_ hl
    rw [show b + 17 + 13 * (k + 1) = b + 17 + 13 * k + 1 + 12 by omega, show 17 + 13 * (k + 1) = 17 + 13 * k + 1 + 12 by omega]
    refine hH.c (fun j hj => ?_)
    by_cases h1 : j = i
    · subst h1
      rw [updE_ne (by omega), cRes_ne (by omega) (by omega), updE_ne (by omega), cWp_eq, cWp_eq]
    · by_cases h2 : j < b
      · rw [updE_ne (by omega), cRes_ne (by omega) (by omega), updE_ne (by omega), cWp_ne h1 h2, cWp_ne h1 h2]
      · obtain ⟨t, rfl⟩ : ∃ t, j = b + t := ⟨j - b, by omega⟩
        rw [cWp_at hi]
        by_cases h3 : t = 16
        · subst h3
          rw [updE_eq, cl_nI (by omega), refU_up k (fun z => n0 + (b + 17 + 13 * z))]
          rfl
        · rw [updE_ne (by omega)]
          by_cases h4 : t < 17 + 13 * k
          · rw [cRes_ne (by omega) (by omega), updE_ne (by omega), cWp_at hi, wcell_k h3]
          · obtain ⟨q, rfl⟩ : ∃ q, t = 17 + 13 * k + q := ⟨t - (17 + 13 * k), by omega⟩
            rw [wcell_res (by omega)]
            unfold rs
            by_cases h5 : q = 0
            · subst h5
              rw [if_pos rfl, show b + (17 + 13 * k + 0) = b + 17 + 13 * k by omega, cRes_eq]
            · rw [if_neg h5, show b + (17 + 13 * k + q) = b + 17 + 13 * k + 1 + (q - 1) by omega, cRes_at (by omega)]
end WLOOPS
