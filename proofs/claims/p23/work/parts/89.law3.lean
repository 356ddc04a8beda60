/-! THE LAW: the rounds, its end. Laid by wip/p23/mklaw3.py -/
section LAWS
variable {p : Program} {l : Launch} {e : Env} {s : State} {m : MethodId} {below : List Frame} {meth : Method} {c : Code} {b L : Nat} {xs : Nat → Int32} {Γ : GG} {Q : State → Prop} {cells slots : Nat}
set_option maxHeartbeats 4000000 in
set_option maxRecDepth 100000 in
theorem law_tail (B : LB Γ p s m c b L xs) {σ : Sg} {mc r D : Nat} (h1 : 1 ≤ mc) (h7 : mc ≤ 8) (hr5 : r < 5) (hD8 : D ≤ 8) (hf : cells ≤ 1000 ∧ slots ≤ 60000) (hz : LZ σ mc) (hD : dueS σ = D) {H : Heap} {locs : List Loc} {ls : Array Slot} (hH : HW (fun q => s.heap.size ≤ q) Γ σ s.heap H locs) (hl : lv_has ls 10 [(4, .int (nI D)), (3, .int (nI r)), (2, .int (nI mc)), (0, .ref b), (1, .ref (adr Γ 0))]) (kk : ∀ (σ : Sg) (H : Heap) (locs : List Loc) (ls : Array Slot), LZ σ mc → HW (fun q => s.heap.size ≤ q) Γ σ s.heap H locs → lv_has ls 10 [(3, .int (nI r)), (2, .int (nI mc)), (0, .ref b), (1, .ref (adr Γ 0))] → W p l e room_1 s m #[Value.ref b] below meth c H locs (cells + 1) (slots + 16 * mc) Q (F0 m 438 ls [])) : W p l e room_1 s m #[Value.ref b] below meth c H locs cells slots Q (F0 m 159 ls []) := by
  obtain ⟨X, hX, hbl, hL⟩ := id B
  have hx := X.1
  have hb := X.2.1
  have hJ : IJ Γ := X.2.2.2.2.2.2.1
  have hA : AW (fun q => s.heap.size ≤ q) Γ [] := AW.nil _ _
  have hO := no_wo Γ H
  refine lv_aload_n hx hb dL_law_159 rfl (lv_at hl 4 rfl) ?_
  refine lv_bipush (v := 7) hx hb dL_law_160 (by decide) ?_
  refine l_callVI X hl hH hO hA (As := [.int 7]) (rest := []) (c_X10_many l hJ σ 7 (σ.1 3 0 0) (lz_many7 σ)) (cw_V X 1 (List.mem_of_getElem? (i := 537) (by decide +kernel)) (List.mem_of_getElem? (i := 534) (by decide +kernel)) (List.mem_of_getElem? (i := 535) (by decide +kernel)) (List.mem_of_getElem? (i := 536) (by decide +kernel)) (List.mem_of_getElem? (i := 2) (by decide +kernel)) rfl rfl (by decide +kernel) ⟨Nat.le_of_ble_eq_true rfl, Nat.le_of_ble_eq_true rfl⟩) (r_recv X hH (k := 0) (by decide) rfl rfl) rfl rfl (Nat.le_of_ble_eq_true rfl) dL_law_162 ⟨Nat.le_trans hf.1 (Nat.le_of_ble_eq_true rfl), Nat.le_trans hf.2 (Nat.le_of_ble_eq_true rfl)⟩ (fun H locs hH hO => ?_)
  refine lv_aload_n hx hb dL_law_165 rfl (lv_at hl 4 rfl) ?_
  refine lv_bipush (v := 8) hx hb dL_law_166 (by decide) ?_
  refine l_callVI X hl hH hO hA (As := [.int 8]) (rest := [.int (σ.1 3 0 0)]) (c_X10_many l hJ σ 8 (σ.1 4 0 0) (lz_many8 σ)) (cw_V X 1 (List.mem_of_getElem? (i := 537) (by decide +kernel)) (List.mem_of_getElem? (i := 534) (by decide +kernel)) (List.mem_of_getElem? (i := 535) (by decide +kernel)) (List.mem_of_getElem? (i := 536) (by decide +kernel)) (List.mem_of_getElem? (i := 2) (by decide +kernel)) rfl rfl (by decide +kernel) ⟨Nat.le_of_ble_eq_true rfl, Nat.le_of_ble_eq_true rfl⟩) (r_recv X hH (k := 0) (by decide) rfl rfl) rfl rfl (Nat.le_of_ble_eq_true rfl) dL_law_168 ⟨Nat.le_trans hf.1 (Nat.le_of_ble_eq_true rfl), Nat.le_trans hf.2 (Nat.le_of_ble_eq_true rfl)⟩ (fun H locs hH hO => ?_)
  refine lv_iadd hx hb dL_law_171 ?_
  refine lv_istore (lv' := [(5, .int ((σ.1 3 0 0) + (σ.1 4 0 0))), (4, .int (nI D)), (3, .int (nI r)), (2, .int (nI mc)), (0, .ref b), (1, .ref (adr Γ 0))]) hx hb dL_law_172 hl (by decide) rfl (fun ls hl => ?_)
  refine lv_aload_n hx hb dL_law_174 rfl (lv_at hl 5 rfl) ?_
  refine lv_iconst (v := 1) hx hb dL_law_175 (by decide) ?_
  refine lv_aload_n hx hb dL_law_176 rfl (lv_at hl 4 rfl) ?_
  refine lv_iload_n hx hb dL_law_177 rfl (lv_at hl 2 rfl) ?_
  refine lv_bipush (v := 6) hx hb dL_law_178 (by decide) ?_
  refine lv_iadd hx hb dL_law_180 ?_
  refine l_cell B hl hH hO (k := ((nI r) + (6 : Int32))) (rest := [.int 1, .ref (adr Γ 0)]) (by rw [show nI r + (6 : Int32) = nI (r + 6) from nI_add r 6, ltz (by omega)]; exact fun z => z) dL_law_181 rfl (Nat.le_of_ble_eq_true rfl) ⟨by omega, by omega⟩ (fun r1 H locs hH hO => ?_)
  refine lv_iconst (v := 3) hx hb dL_law_184 (by decide) ?_
  refine l_callSI X hl hH hO hA (As := [.int r1, .int 3]) (rest := [.int 1, .ref (adr Γ 0)]) (c_L_below l hJ σ r1 3 (nI (blw r1 3)) (bl3 σ r1)) (cw_S X 2 (List.mem_of_getElem? (i := 129) (by decide +kernel)) (List.mem_of_getElem? (i := 127) (by decide +kernel)) (List.mem_of_getElem? (i := 128) (by decide +kernel)) (List.mem_of_getElem? (i := 124) (by decide +kernel)) rfl rfl (by decide +kernel) ⟨Nat.le_of_ble_eq_true rfl, Nat.le_of_ble_eq_true rfl⟩) rfl rfl (Nat.le_of_ble_eq_true rfl) dL_law_185 ⟨Nat.le_trans hf.1 (Nat.le_of_ble_eq_true rfl), Nat.le_trans hf.2 (Nat.le_of_ble_eq_true rfl)⟩ (fun H locs hH hO => ?_)
  refine lv_iadd hx hb dL_law_188 ?_
  rw [show (((1 : Int32) + (nI (blw r1 3))) : Int32) = (nI (1 + blw r1 3)) from nI_add 1 _]
  have hb3 := blw_lt r1 (n := 3) (by omega)
  obtain ⟨t, σ4, σ5, ht, e5, n5, e6, z5, d5⟩ := lz_round2 hz hD (k := 1 + blw r1 3) (by omega) (by omega)
  refine l_callVI X hl hH hO hA (As := [.int (nI (1 + blw r1 3))]) (rest := []) (c_X10_build l hJ σ (nI (1 + blw r1 3)) σ4 (nI t) e5) (cw_V X 1 (List.mem_of_getElem? (i := 574) (by decide +kernel)) (List.mem_of_getElem? (i := 571) (by decide +kernel)) (List.mem_of_getElem? (i := 572) (by decide +kernel)) (List.mem_of_getElem? (i := 573) (by decide +kernel)) (List.mem_of_getElem? (i := 2) (by decide +kernel)) rfl rfl (by decide +kernel) ⟨Nat.le_of_ble_eq_true rfl, Nat.le_of_ble_eq_true rfl⟩) (r_recv X hH (k := 0) (by decide) rfl rfl) rfl rfl (Nat.le_of_ble_eq_true rfl) dL_law_189 ⟨Nat.le_trans hf.1 (Nat.le_of_ble_eq_true rfl), Nat.le_trans hf.2 (Nat.le_of_ble_eq_true rfl)⟩ (fun H locs hH hO => ?_)
  refine lv_istore (lv' := [(6, .int (nI t)), (5, .int ((σ.1 3 0 0) + (σ.1 4 0 0))), (4, .int (nI D)), (3, .int (nI r)), (2, .int (nI mc)), (0, .ref b), (1, .ref (adr Γ 0))]) hx hb dL_law_192 hl (by decide) rfl (fun ls hl => ?_)
  refine lv_iload hx hb dL_law_194 (lv_at hl 0 rfl) ?_
  refine lv_iload hx hb dL_law_196 (lv_at hl 2 rfl) ?_
  refine lv_icmp_gt (tgt := 234) hx hb dL_law_198 (by decide) (fun hc => absurd hc (by rw [lt_n (by omega) (by omega)]; omega)) (fun _ => ?_)
  refine lv_aload_n hx hb dL_law_201 rfl (lv_at hl 6 rfl) ?_
  refine lv_bipush (v := 7) hx hb dL_law_202 (by decide) ?_
  refine l_callVI X hl hH hO hA (As := [.int 7]) (rest := []) (c_X10_many l hJ σ4 7 (σ4.1 3 0 0) (lz_many7 σ4)) (cw_V X 1 (List.mem_of_getElem? (i := 537) (by decide +kernel)) (List.mem_of_getElem? (i := 534) (by decide +kernel)) (List.mem_of_getElem? (i := 535) (by decide +kernel)) (List.mem_of_getElem? (i := 536) (by decide +kernel)) (List.mem_of_getElem? (i := 2) (by decide +kernel)) rfl rfl (by decide +kernel) ⟨Nat.le_of_ble_eq_true rfl, Nat.le_of_ble_eq_true rfl⟩) (r_recv X hH (k := 0) (by decide) rfl rfl) rfl rfl (Nat.le_of_ble_eq_true rfl) dL_law_204 ⟨Nat.le_trans hf.1 (Nat.le_of_ble_eq_true rfl), Nat.le_trans hf.2 (Nat.le_of_ble_eq_true rfl)⟩ (fun H locs hH hO => ?_)
  refine lv_aload_n hx hb dL_law_207 rfl (lv_at hl 6 rfl) ?_
  refine lv_bipush (v := 8) hx hb dL_law_208 (by decide) ?_
  refine l_callVI X hl hH hO hA (As := [.int 8]) (rest := [.int (σ4.1 3 0 0)]) (c_X10_many l hJ σ4 8 (σ4.1 4 0 0) (lz_many8 σ4)) (cw_V X 1 (List.mem_of_getElem? (i := 537) (by decide +kernel)) (List.mem_of_getElem? (i := 534) (by decide +kernel)) (List.mem_of_getElem? (i := 535) (by decide +kernel)) (List.mem_of_getElem? (i := 536) (by decide +kernel)) (List.mem_of_getElem? (i := 2) (by decide +kernel)) rfl rfl (by decide +kernel) ⟨Nat.le_of_ble_eq_true rfl, Nat.le_of_ble_eq_true rfl⟩) (r_recv X hH (k := 0) (by decide) rfl rfl) rfl rfl (Nat.le_of_ble_eq_true rfl) dL_law_210 ⟨Nat.le_trans hf.1 (Nat.le_of_ble_eq_true rfl), Nat.le_trans hf.2 (Nat.le_of_ble_eq_true rfl)⟩ (fun H locs hH hO => ?_)
  refine lv_iadd hx hb dL_law_213 ?_
  refine lv_iload hx hb dL_law_214 (lv_at hl 1 rfl) ?_
  refine lv_iload hx hb dL_law_216 (lv_at hl 0 rfl) ?_
  refine lv_iadd hx hb dL_law_218 ?_
  refine lv_icmp_ne (tgt := 234) hx hb dL_law_219 (by decide) (fun hc => absurd n5 hc) (fun _ => ?_)
  refine lv_aload_n hx hb dL_law_222 rfl (lv_at hl 6 rfl) ?_
  refine l_callVI X hl hH hO hA (As := []) (rest := []) (c_X10_wouldBuild l hJ σ4 σ5 (nI (D - t)) e6) (cw_V X 0 (List.mem_of_getElem? (i := 366) (by decide +kernel)) (List.mem_of_getElem? (i := 363) (by decide +kernel)) (List.mem_of_getElem? (i := 364) (by decide +kernel)) (List.mem_of_getElem? (i := 365) (by decide +kernel)) (List.mem_of_getElem? (i := 2) (by decide +kernel)) rfl rfl (by decide +kernel) ⟨Nat.le_of_ble_eq_true rfl, Nat.le_of_ble_eq_true rfl⟩) (r_recv X hH (k := 0) (by decide) rfl rfl) rfl rfl (Nat.le_of_ble_eq_true rfl) dL_law_223 ⟨Nat.le_trans hf.1 (Nat.le_of_ble_eq_true rfl), Nat.le_trans hf.2 (Nat.le_of_ble_eq_true rfl)⟩ (fun H locs hH hO => ?_)
  refine lv_iload hx hb dL_law_226 (lv_at hl 2 rfl) ?_
  refine lv_iload hx hb dL_law_228 (lv_at hl 0 rfl) ?_
  refine lv_isub hx hb dL_law_230 ?_
  rw [show (((nI D) - (nI t)) : Int32) = (nI (D - t)) from pk_sub (by omega)]
  refine lv_icmp_le (tgt := 236) hx hb dL_law_231 (by decide) (fun _ => ?_) (fun hc => absurd (show nI (D - t) ≤ nI (D - t) by rw [le_n (by omega) (by omega)]; omega) hc)
  obtain ⟨a, σ6, σ7, σ8, σ9, f1, f2, f3, f4, f5, f6, ha, f7, z9⟩ := lz_round3 z5 d5
  refine lv_aload_n hx hb dL_law_236 rfl (lv_at hl 6 rfl) ?_
  refine l_callVI X hl hH hO hA (As := []) (rest := []) (c_X10_wouldBuild l hJ σ5 σ6 (nI (D - t)) f1) (cw_V X 0 (List.mem_of_getElem? (i := 366) (by decide +kernel)) (List.mem_of_getElem? (i := 363) (by decide +kernel)) (List.mem_of_getElem? (i := 364) (by decide +kernel)) (List.mem_of_getElem? (i := 365) (by decide +kernel)) (List.mem_of_getElem? (i := 2) (by decide +kernel)) rfl rfl (by decide +kernel) ⟨Nat.le_of_ble_eq_true rfl, Nat.le_of_ble_eq_true rfl⟩) (r_recv X hH (k := 0) (by decide) rfl rfl) rfl rfl (Nat.le_of_ble_eq_true rfl) dL_law_237 ⟨Nat.le_trans hf.1 (Nat.le_of_ble_eq_true rfl), Nat.le_trans hf.2 (Nat.le_of_ble_eq_true rfl)⟩ (fun H locs hH hO => ?_)
  refine lv_istore (lv' := [(7, .int (nI (D - t))), (6, .int (nI t)), (5, .int ((σ.1 3 0 0) + (σ.1 4 0 0))), (4, .int (nI D)), (3, .int (nI r)), (2, .int (nI mc)), (0, .ref b), (1, .ref (adr Γ 0))]) hx hb dL_law_240 hl (by decide) rfl (fun ls hl => ?_)
  refine lv_aload_n hx hb dL_law_242 rfl (lv_at hl 7 rfl) ?_
  refine lv_bipush (v := 8) hx hb dL_law_243 (by decide) ?_
  refine l_callVI X hl hH hO hA (As := [.int 8]) (rest := []) (c_X10_build l hJ σ6 8 σ7 (nI (D - t)) f2) (cw_V X 1 (List.mem_of_getElem? (i := 574) (by decide +kernel)) (List.mem_of_getElem? (i := 571) (by decide +kernel)) (List.mem_of_getElem? (i := 572) (by decide +kernel)) (List.mem_of_getElem? (i := 573) (by decide +kernel)) (List.mem_of_getElem? (i := 2) (by decide +kernel)) rfl rfl (by decide +kernel) ⟨Nat.le_of_ble_eq_true rfl, Nat.le_of_ble_eq_true rfl⟩) (r_recv X hH (k := 0) (by decide) rfl rfl) rfl rfl (Nat.le_of_ble_eq_true rfl) dL_law_245 ⟨Nat.le_trans hf.1 (Nat.le_of_ble_eq_true rfl), Nat.le_trans hf.2 (Nat.le_of_ble_eq_true rfl)⟩ (fun H locs hH hO => ?_)
  refine lv_iload hx hb dL_law_248 (lv_at hl 0 rfl) ?_
  refine lv_icmp_ne (tgt := 294) hx hb dL_law_250 (by decide) (fun hc => absurd rfl hc) (fun _ => ?_)
  refine lv_aload_n hx hb dL_law_253 rfl (lv_at hl 7 rfl) ?_
  refine lv_iconst (v := 4) hx hb dL_law_254 (by decide) ?_
  refine l_callVI X hl hH hO hA (As := [.int 4]) (rest := []) (c_X10_many l hJ σ7 4 0 f3) (cw_V X 1 (List.mem_of_getElem? (i := 537) (by decide +kernel)) (List.mem_of_getElem? (i := 534) (by decide +kernel)) (List.mem_of_getElem? (i := 535) (by decide +kernel)) (List.mem_of_getElem? (i := 536) (by decide +kernel)) (List.mem_of_getElem? (i := 2) (by decide +kernel)) rfl rfl (by decide +kernel) ⟨Nat.le_of_ble_eq_true rfl, Nat.le_of_ble_eq_true rfl⟩) (r_recv X hH (k := 0) (by decide) rfl rfl) rfl rfl (Nat.le_of_ble_eq_true rfl) dL_law_255 ⟨Nat.le_trans hf.1 (Nat.le_of_ble_eq_true rfl), Nat.le_trans hf.2 (Nat.le_of_ble_eq_true rfl)⟩ (fun H locs hH hO => ?_)
  refine lv_if_ne (tgt := 294) hx hb dL_law_258 (by decide) (fun hc => absurd rfl hc) (fun _ => ?_)
  refine lv_aload_n hx hb dL_law_261 rfl (lv_at hl 7 rfl) ?_
  refine l_callVI X hl hH hO hA (As := []) (rest := []) (c_X10_wouldBuild l hJ σ7 σ8 0 f4) (cw_V X 0 (List.mem_of_getElem? (i := 366) (by decide +kernel)) (List.mem_of_getElem? (i := 363) (by decide +kernel)) (List.mem_of_getElem? (i := 364) (by decide +kernel)) (List.mem_of_getElem? (i := 365) (by decide +kernel)) (List.mem_of_getElem? (i := 2) (by decide +kernel)) rfl rfl (by decide +kernel) ⟨Nat.le_of_ble_eq_true rfl, Nat.le_of_ble_eq_true rfl⟩) (r_recv X hH (k := 0) (by decide) rfl rfl) rfl rfl (Nat.le_of_ble_eq_true rfl) dL_law_262 ⟨Nat.le_trans hf.1 (Nat.le_of_ble_eq_true rfl), Nat.le_trans hf.2 (Nat.le_of_ble_eq_true rfl)⟩ (fun H locs hH hO => ?_)
  refine lv_if_ne (tgt := 294) hx hb dL_law_265 (by decide) (fun hc => absurd rfl hc) (fun _ => ?_)
  refine lv_aload_n hx hb dL_law_268 rfl (lv_at hl 7 rfl) ?_
  refine l_callVI X hl hH hO hA (As := []) (rest := []) (c_X10_isAsNew l hJ σ8 1 f5) (cw_V X 0 (List.mem_of_getElem? (i := 585) (by decide +kernel)) (List.mem_of_getElem? (i := 582) (by decide +kernel)) (List.mem_of_getElem? (i := 583) (by decide +kernel)) (List.mem_of_getElem? (i := 584) (by decide +kernel)) (List.mem_of_getElem? (i := 2) (by decide +kernel)) rfl rfl (by decide +kernel) ⟨Nat.le_of_ble_eq_true rfl, Nat.le_of_ble_eq_true rfl⟩) (r_recv X hH (k := 0) (by decide) rfl rfl) rfl rfl (Nat.le_of_ble_eq_true rfl) dL_law_269 ⟨Nat.le_trans hf.1 (Nat.le_of_ble_eq_true rfl), Nat.le_trans hf.2 (Nat.le_of_ble_eq_true rfl)⟩ (fun H locs hH hO => ?_)
  refine lv_if_eq (tgt := 294) hx hb dL_law_272 (by decide) (fun hc => absurd hc (by decide)) (fun _ => ?_)
  refine lv_aload_n hx hb dL_law_275 rfl (lv_at hl 7 rfl) ?_
  refine lv_bipush (v := 6) hx hb dL_law_276 (by decide) ?_
  refine l_callVI X hl hH hO hA (As := [.int 6]) (rest := []) (c_X10_many l hJ σ8 6 (nI a) f6) (cw_V X 1 (List.mem_of_getElem? (i := 537) (by decide +kernel)) (List.mem_of_getElem? (i := 534) (by decide +kernel)) (List.mem_of_getElem? (i := 535) (by decide +kernel)) (List.mem_of_getElem? (i := 536) (by decide +kernel)) (List.mem_of_getElem? (i := 2) (by decide +kernel)) rfl rfl (by decide +kernel) ⟨Nat.le_of_ble_eq_true rfl, Nat.le_of_ble_eq_true rfl⟩) (r_recv X hH (k := 0) (by decide) rfl rfl) rfl rfl (Nat.le_of_ble_eq_true rfl) dL_law_278 ⟨Nat.le_trans hf.1 (Nat.le_of_ble_eq_true rfl), Nat.le_trans hf.2 (Nat.le_of_ble_eq_true rfl)⟩ (fun H locs hH hO => ?_)
  refine lv_bipush (v := 10) hx hb dL_law_281 (by decide) ?_
  refine lv_icmp_gt (tgt := 294) hx hb dL_law_283 (by decide) (fun hc => absurd (show nI 10 < nI a from hc) (by rw [lt_n (by omega) (by omega)]; omega)) (fun _ => ?_)
  refine lv_aload_n hx hb dL_law_286 rfl (lv_at hl 7 rfl) ?_
  refine lv_iload_n hx hb dL_law_287 rfl (lv_at hl 5 rfl) ?_
  refine l_callSI X hl hH hO hA (As := [.ref (adr Γ 0), .int (nI mc)]) (rest := []) (c_L_isBuilt l hJ σ8 (nI mc) σ9 1 f7) (cw_S X 2 (List.mem_of_getElem? (i := 588) (by decide +kernel)) (List.mem_of_getElem? (i := 586) (by decide +kernel)) (List.mem_of_getElem? (i := 587) (by decide +kernel)) (List.mem_of_getElem? (i := 124) (by decide +kernel)) rfl rfl (by decide +kernel) ⟨Nat.le_of_ble_eq_true rfl, Nat.le_of_ble_eq_true rfl⟩) rfl rfl (Nat.le_of_ble_eq_true rfl) dL_law_288 ⟨Nat.le_trans hf.1 (Nat.le_of_ble_eq_true rfl), Nat.le_trans hf.2 (Nat.le_of_ble_eq_true rfl)⟩ (fun H locs hH hO => ?_)
  refine lv_if_ne (tgt := 296) hx hb dL_law_291 (by decide) (fun _ => ?_) (fun hc => absurd hc (by decide))
  refine lv_bipush (v := 16) hx hb dL_law_296 (by decide) ?_
  refine lv_iload_n hx hb dL_law_298 rfl (lv_at hl 5 rfl) ?_
  refine lv_imul hx hb dL_law_299 ?_
  rw [show (((16 : Int32) * (nI mc)) : Int32) = (nI (16 * mc)) from by rw [show (16 : Int32) = nI 16 from rfl, pk_mul]]
  refine l_new X hH (fun q h => h) (n := nI (16 * mc)) (N' := 16 * mc) (by rw [ltz (by omega)]; exact fun z => z) (cl_nI (by omega)) (by omega) (by show cells + 1 ≤ 600064; omega) (by show slots + 16 * mc ≤ 7301640; omega) dL_law_300 (fun wa H hH hO hA => ?_)
  refine lv_astore (lv' := [(8, .ref wa), (7, .int (nI (D - t))), (6, .int (nI t)), (5, .int ((σ.1 3 0 0) + (σ.1 4 0 0))), (4, .int (nI D)), (3, .int (nI r)), (2, .int (nI mc)), (0, .ref b), (1, .ref (adr Γ 0))]) hx hb dL_law_302 hl (by decide) rfl (fun ls hl => ?_)
  refine lv_iconst (v := 0) hx hb dL_law_304 (by decide) ?_
  refine lv_istore (lv' := [(9, .int 0), (8, .ref wa), (7, .int (nI (D - t))), (6, .int (nI t)), (5, .int ((σ.1 3 0 0) + (σ.1 4 0 0))), (4, .int (nI D)), (3, .int (nI r)), (2, .int (nI mc)), (0, .ref b), (1, .ref (adr Γ 0))]) hx hb dL_law_305 hl (by decide) rfl (fun ls hl => ?_)
  refine law_fill B h1 h7 hr5 (V := runV σ9) ⟨by omega, by omega⟩ hA (fun σ10 f H locs ls z10 v10 hfV hH hO hl => ?_) (16 * mc) 0 (by omega) σ9 _ _ _ _ z9 rfl (fun j hj => by omega) hH hO (lv_sub hl [0, 1, 6, 7, 8, 9] rfl)
  refine lv_iconst (v := 0) hx hb dL_law_340 (by decide) ?_
  refine lv_istore (lv' := [(9, .int 0), (8, .ref wa), (3, .int (nI r)), (2, .int (nI mc)), (0, .ref b), (1, .ref (adr Γ 0))]) hx hb dL_law_341 hl (by decide) rfl (fun ls hl => ?_)
  refine law_three B h1 h7 hr5 (V := runV σ9) ⟨by omega, by omega⟩ hA (fun σ11 f H locs ls z11 v11 hfV hH hO hl => ?_) 3 0 (by omega) σ10 f _ _ _ z10 v10 hfV hH hO (lv_sub hl [0, 1, 2, 3, 4, 5] rfl)
  refine lv_iconst (v := 0) hx hb dL_law_397 (by decide) ?_
  refine lv_istore (lv' := [(9, .int 0), (8, .ref wa), (3, .int (nI r)), (2, .int (nI mc)), (0, .ref b), (1, .ref (adr Γ 0))]) hx hb dL_law_398 hl (by decide) rfl (fun ls hl => ?_)
  refine law_check B h1 h7 hr5 (V := runV σ9) ⟨by omega, by omega⟩ hA (fun σ12 f H locs ls z12 v12 hfV hH hO hl => ?_) (16 * mc) 0 (by omega) σ11 f _ _ _ z11 v11 hfV hH hO (lv_sub hl [0, 1, 2, 3, 4, 5] rfl)
  exact kk σ12 _ _ _ z12 hH (lv_sub hl [2, 3, 4, 5] rfl)
set_option maxHeartbeats 4000000 in
set_option maxRecDepth 100000 in
theorem law_rounds (B : LB Γ p s m c b L xs) {mc : Nat} (h1 : 1 ≤ mc) (h7 : mc ≤ 8) (kk : ∀ (σ : Sg) (H : Heap) (locs : List Loc) (ls : Array Slot) (cl sl : Nat), LZ σ mc → cl ≤ 1000 → sl ≤ 60000 → HW (fun q => s.heap.size ≤ q) Γ σ s.heap H locs → lv_has ls 10 [(3, .int (nI 5)), (2, .int (nI mc)), (0, .ref b), (1, .ref (adr Γ 0))] → W p l e room_1 s m #[Value.ref b] below meth c H locs cl sl Q (F0 m 444 ls [])) : ∀ d r, r + d = 5 → ∀ (σ : Sg) (H : Heap) (locs : List Loc) (ls : Array Slot) (cl sl : Nat), LZ σ mc → cl + d ≤ 1000 → sl + 128 * d ≤ 60000 → HW (fun q => s.heap.size ≤ q) Γ σ s.heap H locs → lv_has ls 10 [(3, .int (nI r)), (2, .int (nI mc)), (0, .ref b), (1, .ref (adr Γ 0))] → W p l e room_1 s m #[Value.ref b] below meth c H locs cl sl Q (F0 m 100 ls []) := by
  obtain ⟨X, hX, hbl, hL⟩ := id B
  have hx := X.1
  have hb := X.2.1
  have hJ : IJ Γ := X.2.2.2.2.2.2.1
  have hA : AW (fun q => s.heap.size ≤ q) Γ [] := AW.nil _ _
  intro d
  induction d with
  | zero =>
    intro r hr σ H locs ls cl sl hz hc1 hs1 hH hl
    have hr : r = 5 := by omega
    subst hr
    refine lv_iload_n hx hb dL_law_100 rfl (lv_at hl 0 rfl) ?_
    refine lv_iconst (v := 5) hx hb dL_law_101 (by decide) ?_
    refine lv_icmp_ge (tgt := 444) hx hb dL_law_102 (by decide) (fun _ => ?_) (fun hc => absurd (show (5 : Int32) ≤ nI 5 by decide) hc)
    exact kk σ _ _ _ cl sl hz (by omega) (by omega) hH hl
  | succ d ih =>
    intro r hr σ H locs ls cl sl hz hc1 hs1 hH hl
    have hO := no_wo Γ H
    have hf : cl ≤ 1000 ∧ sl ≤ 60000 := ⟨by omega, by omega⟩
    obtain ⟨D, a3, a4, σ1, σ2, σ3, hD8, e1, e2, e3, h3, e4, h4, i4, z3, d3⟩ := lz_round1 hz
    refine lv_iload_n hx hb dL_law_100 rfl (lv_at hl 0 rfl) ?_
    refine lv_iconst (v := 5) hx hb dL_law_101 (by decide) ?_
    refine lv_icmp_ge (tgt := 444) hx hb dL_law_102 (by decide) (fun hc => absurd (show nI 5 ≤ nI r from hc) (by rw [le_n (by omega) (by omega)]; omega)) (fun _ => ?_)
    refine lv_aload_n hx hb dL_law_105 rfl (lv_at hl 3 rfl) ?_
    refine l_callVI X hl hH hO hA (As := []) (rest := []) (c_X10_wouldBuild l hJ σ σ1 (nI D) e1) (cw_V X 0 (List.mem_of_getElem? (i := 366) (by decide +kernel)) (List.mem_of_getElem? (i := 363) (by decide +kernel)) (List.mem_of_getElem? (i := 364) (by decide +kernel)) (List.mem_of_getElem? (i := 365) (by decide +kernel)) (List.mem_of_getElem? (i := 2) (by decide +kernel)) rfl rfl (by decide +kernel) ⟨Nat.le_of_ble_eq_true rfl, Nat.le_of_ble_eq_true rfl⟩) (r_recv X hH (k := 0) (by decide) rfl rfl) rfl rfl (Nat.le_of_ble_eq_true rfl) dL_law_106 ⟨Nat.le_trans hf.1 (Nat.le_of_ble_eq_true rfl), Nat.le_trans hf.2 (Nat.le_of_ble_eq_true rfl)⟩ (fun H locs hH hO => ?_)
    refine lv_istore (lv' := [(4, .int (nI D)), (3, .int (nI r)), (2, .int (nI mc)), (0, .ref b), (1, .ref (adr Γ 0))]) hx hb dL_law_109 hl (by decide) rfl (fun ls hl => ?_)
    refine lv_aload_n hx hb dL_law_111 rfl (lv_at hl 4 rfl) ?_
    refine lv_iconst (v := 1) hx hb dL_law_112 (by decide) ?_
    refine l_callVI X hl hH hO hA (As := [.int 1]) (rest := []) (c_X10_rounds l hJ σ1 1 σ2 (nI D) e2) (cw_V X 1 (List.mem_of_getElem? (i := 524) (by decide +kernel)) (List.mem_of_getElem? (i := 521) (by decide +kernel)) (List.mem_of_getElem? (i := 522) (by decide +kernel)) (List.mem_of_getElem? (i := 523) (by decide +kernel)) (List.mem_of_getElem? (i := 2) (by decide +kernel)) rfl rfl (by decide +kernel) ⟨Nat.le_of_ble_eq_true rfl, Nat.le_of_ble_eq_true rfl⟩) (r_recv X hH (k := 0) (by decide) rfl rfl) rfl rfl (Nat.le_of_ble_eq_true rfl) dL_law_113 ⟨Nat.le_trans hf.1 (Nat.le_of_ble_eq_true rfl), Nat.le_trans hf.2 (Nat.le_of_ble_eq_true rfl)⟩ (fun H locs hH hO => ?_)
    refine lv_iload hx hb dL_law_116 (lv_at hl 0 rfl) ?_
    refine lv_icmp_ne (tgt := 157) hx hb dL_law_118 (by decide) (fun hc => absurd rfl hc) (fun _ => ?_)
    refine lv_aload_n hx hb dL_law_121 rfl (lv_at hl 4 rfl) ?_
    refine lv_iconst (v := 3) hx hb dL_law_122 (by decide) ?_
    refine l_callVI X hl hH hO hA (As := [.int 3]) (rest := []) (c_X10_rounds l hJ σ2 3 σ3 (nI a3) e3) (cw_V X 1 (List.mem_of_getElem? (i := 524) (by decide +kernel)) (List.mem_of_getElem? (i := 521) (by decide +kernel)) (List.mem_of_getElem? (i := 522) (by decide +kernel)) (List.mem_of_getElem? (i := 523) (by decide +kernel)) (List.mem_of_getElem? (i := 2) (by decide +kernel)) rfl rfl (by decide +kernel) ⟨Nat.le_of_ble_eq_true rfl, Nat.le_of_ble_eq_true rfl⟩) (r_recv X hH (k := 0) (by decide) rfl rfl) rfl rfl (Nat.le_of_ble_eq_true rfl) dL_law_123 ⟨Nat.le_trans hf.1 (Nat.le_of_ble_eq_true rfl), Nat.le_trans hf.2 (Nat.le_of_ble_eq_true rfl)⟩ (fun H locs hH hO => ?_)
    refine lv_iload hx hb dL_law_126 (lv_at hl 0 rfl) ?_
    refine lv_icmp_gt (tgt := 157) hx hb dL_law_128 (by decide) (fun hc => absurd hc (by rw [lt_n (by omega) (by omega)]; omega)) (fun _ => ?_)
    refine lv_aload_n hx hb dL_law_131 rfl (lv_at hl 4 rfl) ?_
    refine lv_iconst (v := 4) hx hb dL_law_132 (by decide) ?_
    refine l_callVI X hl hH hO hA (As := [.int 4]) (rest := []) (c_X10_many l hJ σ3 4 (nI a4) e4) (cw_V X 1 (List.mem_of_getElem? (i := 537) (by decide +kernel)) (List.mem_of_getElem? (i := 534) (by decide +kernel)) (List.mem_of_getElem? (i := 535) (by decide +kernel)) (List.mem_of_getElem? (i := 536) (by decide +kernel)) (List.mem_of_getElem? (i := 2) (by decide +kernel)) rfl rfl (by decide +kernel) ⟨Nat.le_of_ble_eq_true rfl, Nat.le_of_ble_eq_true rfl⟩) (r_recv X hH (k := 0) (by decide) rfl rfl) rfl rfl (Nat.le_of_ble_eq_true rfl) dL_law_133 ⟨Nat.le_trans hf.1 (Nat.le_of_ble_eq_true rfl), Nat.le_trans hf.2 (Nat.le_of_ble_eq_true rfl)⟩ (fun H locs hH hO => ?_)
    have tail : ∀ (ls : Array Slot), lv_has ls 10 [(4, .int (nI D)), (3, .int (nI r)), (2, .int (nI mc)), (0, .ref b), (1, .ref (adr Γ 0))] → W p l e room_1 s m #[Value.ref b] below meth c H locs cl sl Q (F0 m 159 ls []) := fun ls hl => by
      refine law_tail B h1 h7 (show r < 5 by omega) hD8 hf z3 d3 hH hl (fun σ4 H locs ls z4 hH hl => ?_)
      refine lv_iinc (v := (nI (r + 1))) (lv' := [(3, .int (nI (r + 1))), (2, .int (nI mc)), (0, .ref b), (1, .ref (adr Γ 0))]) hx hb dL_law_438 hl (k := 0) rfl (by rw [← nI_1]; rfl) (by decide) rfl (fun ls hl => ?_)
      refine lv_goto (tgt := 100) hx hb dL_law_441 (by decide) ?_
      exact ih (r + 1) (by omega) σ4 _ _ _ _ _ z4 (by omega) (by omega) hH hl
    by_cases hD0 : D = 0
    · refine lv_if_le (tgt := 143) hx hb dL_law_136 (by decide) (fun _ => ?_) (fun hc => absurd (show nI a4 ≤ 0 by rw [le0 (by omega)]; exact i4.mpr hD0) hc)
      refine lv_iconst (v := 0) hx hb dL_law_143 (by decide) ?_
      refine lv_iload hx hb dL_law_144 (lv_at hl 0 rfl) ?_
      refine lv_if_le (tgt := 153) hx hb dL_law_146 (by decide) (fun _ => ?_) (fun hc => absurd (show nI D ≤ 0 by rw [le0 (by omega)]; exact hD0) hc)
      refine lv_iconst (v := 0) hx hb dL_law_153 (by decide) ?_
      refine lv_icmp_eq (tgt := 159) hx hb dL_law_154 (by decide) (fun _ => ?_) (fun hc => absurd rfl hc)
      exact tail _ hl
    · refine lv_if_le (tgt := 143) hx hb dL_law_136 (by decide) (fun hc => absurd (i4.mp (by rw [le0 (by omega)] at hc; exact hc)) hD0) (fun _ => ?_)
      refine lv_iconst (v := 1) hx hb dL_law_139 (by decide) ?_
      refine lv_goto (tgt := 144) hx hb dL_law_140 (by decide) ?_
      refine lv_iload hx hb dL_law_144 (lv_at hl 0 rfl) ?_
      refine lv_if_le (tgt := 153) hx hb dL_law_146 (by decide) (fun hc => absurd (by rw [le0 (by omega)] at hc; exact hc) hD0) (fun _ => ?_)
      refine lv_iconst (v := 1) hx hb dL_law_149 (by decide) ?_
      refine lv_goto (tgt := 154) hx hb dL_law_150 (by decide) ?_
      refine lv_icmp_eq (tgt := 159) hx hb dL_law_154 (by decide) (fun _ => ?_) (fun hc => absurd rfl hc)
      exact tail _ hl
set_option maxHeartbeats 4000000 in
set_option maxRecDepth 100000 in
theorem law_end (B : LB Γ p s m c b L xs) (hr : meth.sig.returnType = ret) (hlocks : meth.locks = false) {σ : Sg} {mc : Nat} (h1 : 1 ≤ mc) (hf : cells ≤ 1000 ∧ slots ≤ 60000) (hz : LZ σ mc) {H : Heap} {locs : List Loc} {ls : Array Slot} (hH : HW (fun q => s.heap.size ≤ q) Γ σ s.heap H locs) (hl : lv_has ls 10 [(3, .int (nI 5)), (2, .int (nI mc)), (0, .ref b), (1, .ref (adr Γ 0))]) : W p l e room_1 s m #[Value.ref b] below meth c H locs cells slots (lw_Z below #[Value.ref b] s) (F0 m 444 ls []) := by
  obtain ⟨X, hX, hbl, hL⟩ := id B
  have hx := X.1
  have hb := X.2.1
  have hJ : IJ Γ := X.2.2.2.2.2.2.1
  have hA : AW (fun q => s.heap.size ≤ q) Γ [] := AW.nil _ _
  have hO := no_wo Γ H
  obtain ⟨G, σ1, σ2, σ3, σ4, v, w, e1, e2, hv, e3, hw, e4⟩ := lz_end hz (by omega)
  refine lv_aload_n hx hb dL_law_444 rfl (lv_at hl 3 rfl) ?_
  refine l_callVL X hl hH hO hA (As := []) (rest := []) (c_X10_digest l hJ σ σ1 G e1) (cw_V X 0 (List.mem_of_getElem? (i := 636) (by decide +kernel)) (List.mem_of_getElem? (i := 633) (by decide +kernel)) (List.mem_of_getElem? (i := 634) (by decide +kernel)) (List.mem_of_getElem? (i := 635) (by decide +kernel)) (List.mem_of_getElem? (i := 2) (by decide +kernel)) rfl rfl (by decide +kernel) ⟨Nat.le_of_ble_eq_true rfl, Nat.le_of_ble_eq_true rfl⟩) (r_recv X hH (k := 0) (by decide) rfl rfl) rfl rfl (Nat.le_of_ble_eq_true rfl) dL_law_445 ⟨Nat.le_trans hf.1 (Nat.le_of_ble_eq_true rfl), Nat.le_trans hf.2 (Nat.le_of_ble_eq_true rfl)⟩ (fun H locs hH hO => ?_)
  refine lv_lstore_n (lv' := [(3, .long G), (2, .int (nI mc)), (0, .ref b), (1, .ref (adr Γ 0))]) hx hb dL_law_448 rfl hl (by decide) rfl (fun ls hl => ?_)
  refine lv_aload_n hx hb dL_law_449 rfl (lv_at hl 3 rfl) ?_
  refine lv_iconst (v := 0) hx hb dL_law_450 (by decide) ?_
  refine lv_iconst (v := 0) hx hb dL_law_451 (by decide) ?_
  refine lv_iconst (v := 1) hx hb dL_law_452 (by decide) ?_
  refine l_callVI X hl hH hO hA (As := [.int 0, .int 0, .int 1]) (rest := []) (c_X10_builtBy l hJ σ1 0 0 1 σ2 v e2) (cw_V X 3 (List.mem_of_getElem? (i := 678) (by decide +kernel)) (List.mem_of_getElem? (i := 675) (by decide +kernel)) (List.mem_of_getElem? (i := 676) (by decide +kernel)) (List.mem_of_getElem? (i := 677) (by decide +kernel)) (List.mem_of_getElem? (i := 2) (by decide +kernel)) rfl rfl (by decide +kernel) ⟨Nat.le_of_ble_eq_true rfl, Nat.le_of_ble_eq_true rfl⟩) (r_recv X hH (k := 0) (by decide) rfl rfl) rfl rfl (Nat.le_of_ble_eq_true rfl) dL_law_453 ⟨Nat.le_trans hf.1 (Nat.le_of_ble_eq_true rfl), Nat.le_trans hf.2 (Nat.le_of_ble_eq_true rfl)⟩ (fun H locs hH hO => ?_)
  refine lv_if_lt (tgt := 467) hx hb dL_law_456 (by decide) (fun hc => absurd hc hv) (fun _ => ?_)
  refine lv_aload_n hx hb dL_law_459 rfl (lv_at hl 3 rfl) ?_
  refine lv_iconst (v := 2) hx hb dL_law_460 (by decide) ?_
  refine l_callVI X hl hH hO hA (As := [.int 2]) (rest := []) (c_X10_rounds l hJ σ2 2 σ3 w e3) (cw_V X 1 (List.mem_of_getElem? (i := 524) (by decide +kernel)) (List.mem_of_getElem? (i := 521) (by decide +kernel)) (List.mem_of_getElem? (i := 522) (by decide +kernel)) (List.mem_of_getElem? (i := 523) (by decide +kernel)) (List.mem_of_getElem? (i := 2) (by decide +kernel)) rfl rfl (by decide +kernel) ⟨Nat.le_of_ble_eq_true rfl, Nat.le_of_ble_eq_true rfl⟩) (r_recv X hH (k := 0) (by decide) rfl rfl) rfl rfl (Nat.le_of_ble_eq_true rfl) dL_law_461 ⟨Nat.le_trans hf.1 (Nat.le_of_ble_eq_true rfl), Nat.le_trans hf.2 (Nat.le_of_ble_eq_true rfl)⟩ (fun H locs hH hO => ?_)
  refine lv_if_ge (tgt := 469) hx hb dL_law_464 (by decide) (fun _ => ?_) (fun hc => absurd (Int32.not_lt.mp hw) hc)
  refine lv_aload_n hx hb dL_law_469 rfl (lv_at hl 3 rfl) ?_
  refine l_callVL X hl hH hO hA (As := []) (rest := []) (c_X10_digest l hJ σ3 σ4 G e4) (cw_V X 0 (List.mem_of_getElem? (i := 636) (by decide +kernel)) (List.mem_of_getElem? (i := 633) (by decide +kernel)) (List.mem_of_getElem? (i := 634) (by decide +kernel)) (List.mem_of_getElem? (i := 635) (by decide +kernel)) (List.mem_of_getElem? (i := 2) (by decide +kernel)) rfl rfl (by decide +kernel) ⟨Nat.le_of_ble_eq_true rfl, Nat.le_of_ble_eq_true rfl⟩) (r_recv X hH (k := 0) (by decide) rfl rfl) rfl rfl (Nat.le_of_ble_eq_true rfl) dL_law_470 ⟨Nat.le_trans hf.1 (Nat.le_of_ble_eq_true rfl), Nat.le_trans hf.2 (Nat.le_of_ble_eq_true rfl)⟩ (fun H locs hH hO => ?_)
  refine lv_lload_n hx hb dL_law_473 rfl (lv_at hl 0 rfl) ?_
  refine W.lcmp hx hb dL_law_474 ?_
  refine lv_if_ne (tgt := 482) hx hb dL_law_475 (by decide) (fun hc => absurd ((lg_cmp_eq _ _).mpr rfl) hc) (fun _ => ?_)
  refine lv_iconst (v := 1) hx hb dL_law_478 (by decide) ?_
  refine lv_goto (tgt := 483) hx hb dL_law_479 (by decide) ?_
  refine va_forget (fun q hq => hH.2.2.2 q hq) (W.widen (k := 600064) (n := 7301640) (by omega) (by omega) ?_)
  exact lw_ret X.1 X.2.1 hr hlocks dL_law_483
end LAWS
