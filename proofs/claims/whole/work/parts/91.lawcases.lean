set_option maxRecDepth 100000 in
set_option maxHeartbeats 4000000 in
theorem law_case_0 {p : Program} {l : Launch} {e : Env} {s : State} {m : MethodId} {below : List Frame} {meth : Method} {c : Code} {b L : Nat} {xs : Nat → Int32} (C0 : lw_At p s m meth c b L xs) {dC : Nat → ClassId} {dI : Nat → Nat → Nat} {adC adM : Nat → Nat} {ca : Nat → ClassId} {lw : Nat → Option Nat} {tl tt : Option Nat} {M N : Mem} (tC : St adC (fun q : Nat => s.heap.size ≤ q) s s.heap) (tM : St adM (fun q : Nat => s.heap.size ≤ q) s s.heap) {tm : Nat} (ht : tm ≤ 3100) (hRel : Rel tm lw M N) {x3 : Int32} (i1 : vp_in (x3 + 1) L) (i2 : vp_in (x3 + 2) L) (i3 : vp_in (x3 + 3) L) (i4 : vp_in (x3 + 4) L) (i5 : vp_in (x3 + 5) L) {ls : Array Slot} (hl : lv_has ls 4 [(0, .ref b), (1, .ref (adC 0)), (2, .ref (adM 0)), (3, .int x3)])
    (hnext : ∀ (lw' : Nat → Option Nat) (tl' tt' : Option Nat) (M' N' : Mem), Rel (tm + 1) lw' M' N' → ∀ (H : Heap) (locs : List Loc), W2 dC dI adC adM ca (fun q : Nat => s.heap.size ≤ q) lw' tl' tt' M' N' s H → va_S (fun q : Nat => s.heap.size ≤ q) s.heap H locs → W p l e room_1 s m #[Value.ref b] below meth c H locs 80 2300 (lw_Z below #[Value.ref b] s) (F0 m 1556 ls [])) (H : Heap) (locs : List Loc) (w : W2 dC dI adC adM ca (fun q : Nat => s.heap.size ≤ q) lw tl tt M N s H) (hS : va_S (fun q : Nat => s.heap.size ≤ q) s.heap H locs) : W p l e room_1 s m #[Value.ref b] below meth c H locs 80 2300 (lw_Z below #[Value.ref b] s) (F0 m 228 ls []) := by
  obtain ⟨hx, hb, hr, hml, hown, hts0, hX, hbl, hlocks, hgv⟩ := id C0
  have hbA : ¬ (fun q : Nat => s.heap.size ≤ q) b := Nat.not_le.mpr hbl
  obtain ⟨r, M', N', hF, hG, hR⟩ := op_row tl tt ht hRel (xs (x3 + 1).toNatClampNeg) (xs (x3 + 2).toNatClampNeg)
  refine lv_aload_n hx hb dL_law_228 rfl (lv_at hl 1 rfl) ?_
  refine lv_aload_n hx hb dL_law_229 rfl (lv_at hl 0 rfl) ?_
  refine lv_iload_n hx hb dL_law_230 rfl (lv_at hl 3 rfl) ?_
  refine lv_iconst hx hb dL_law_231 ic_1 ?_
  refine lv_iadd hx hb dL_law_232 ?_
  refine va_sld hx hb hX hbl hbA hS i1 dL_law_233 ?_
  refine lv_aload_n hx hb dL_law_234 rfl (lv_at hl 0 rfl) ?_
  refine lv_iload_n hx hb dL_law_235 rfl (lv_at hl 3 rfl) ?_
  refine lv_iconst hx hb dL_law_236 ic_2 ?_
  refine lv_iadd hx hb dL_law_237 ?_
  refine va_sld hx hb hX hbl hbA hS i2 dL_law_238 ?_
  refine law_Ci C0 (lw' := lw) (tl' := tl) (tt' := tt) (M' := M') tC hl.1 (as := [vI (xs (x3 + 1).toNatClampNeg), vI (xs (x3 + 2).toNatClampNeg)]) w hS dL_law_239 cw_X8_row ml_L_13 mi_X8_row se_X8_row (Nat.zero_le _) (Nat.le_of_ble_eq_true rfl) (m_X8_row lw tl tt M (xs (x3 + 1).toNatClampNeg) (xs (x3 + 2).toNatClampNeg) r M' hF) rfl ?_
  intro H locs w hS
  refine lv_aload_n hx hb dL_law_242 rfl (lv_at hl 2 rfl) ?_
  refine lv_aload_n hx hb dL_law_243 rfl (lv_at hl 0 rfl) ?_
  refine lv_iload_n hx hb dL_law_244 rfl (lv_at hl 3 rfl) ?_
  refine lv_iconst hx hb dL_law_245 ic_1 ?_
  refine lv_iadd hx hb dL_law_246 ?_
  refine va_sld hx hb hX hbl hbA hS i1 dL_law_247 ?_
  refine lv_aload_n hx hb dL_law_248 rfl (lv_at hl 0 rfl) ?_
  refine lv_iload_n hx hb dL_law_249 rfl (lv_at hl 3 rfl) ?_
  refine lv_iconst hx hb dL_law_250 ic_2 ?_
  refine lv_iadd hx hb dL_law_251 ?_
  refine va_sld hx hb hX hbl hbA hS i2 dL_law_252 ?_
  refine law_Mi C0 (N' := N') tM hl.1 (as := [vI (xs (x3 + 1).toNatClampNeg), vI (xs (x3 + 2).toNatClampNeg)]) w hS dL_law_253 cw_X9_row ml_L_17 mi_X9_row se_X9_row (Nat.le_of_ble_eq_true rfl) (Nat.le_of_ble_eq_true rfl) (m_X9_row  N (xs (x3 + 1).toNatClampNeg) (xs (x3 + 2).toNatClampNeg) r N' hG) rfl ?_
  intro H locs w hS
  refine lv_icmp_eq (tgt := 1556) hx hb dL_law_256 (by decide) (fun _ => ?_) (fun hc => absurd rfl hc)
  exact hnext lw tl tt M' N' hR H locs w hS
set_option maxRecDepth 100000 in
set_option maxHeartbeats 4000000 in
theorem law_case_1 {p : Program} {l : Launch} {e : Env} {s : State} {m : MethodId} {below : List Frame} {meth : Method} {c : Code} {b L : Nat} {xs : Nat → Int32} (C0 : lw_At p s m meth c b L xs) {dC : Nat → ClassId} {dI : Nat → Nat → Nat} {adC adM : Nat → Nat} {ca : Nat → ClassId} {lw : Nat → Option Nat} {tl tt : Option Nat} {M N : Mem} (tC : St adC (fun q : Nat => s.heap.size ≤ q) s s.heap) (tM : St adM (fun q : Nat => s.heap.size ≤ q) s s.heap) {tm : Nat} (ht : tm ≤ 3100) (hRel : Rel tm lw M N) {x3 : Int32} (i1 : vp_in (x3 + 1) L) (i2 : vp_in (x3 + 2) L) (i3 : vp_in (x3 + 3) L) (i4 : vp_in (x3 + 4) L) (i5 : vp_in (x3 + 5) L) {ls : Array Slot} (hl : lv_has ls 4 [(0, .ref b), (1, .ref (adC 0)), (2, .ref (adM 0)), (3, .int x3)])
    (hnext : ∀ (lw' : Nat → Option Nat) (tl' tt' : Option Nat) (M' N' : Mem), Rel (tm + 1) lw' M' N' → ∀ (H : Heap) (locs : List Loc), W2 dC dI adC adM ca (fun q : Nat => s.heap.size ≤ q) lw' tl' tt' M' N' s H → va_S (fun q : Nat => s.heap.size ≤ q) s.heap H locs → W p l e room_1 s m #[Value.ref b] below meth c H locs 80 2300 (lw_Z below #[Value.ref b] s) (F0 m 1556 ls [])) (H : Heap) (locs : List Loc) (w : W2 dC dI adC adM ca (fun q : Nat => s.heap.size ≤ q) lw tl tt M N s H) (hS : va_S (fun q : Nat => s.heap.size ≤ q) s.heap H locs) : W p l e room_1 s m #[Value.ref b] below meth c H locs 80 2300 (lw_Z below #[Value.ref b] s) (F0 m 261 ls []) := by
  obtain ⟨hx, hb, hr, hml, hown, hts0, hX, hbl, hlocks, hgv⟩ := id C0
  have hbA : ¬ (fun q : Nat => s.heap.size ≤ q) b := Nat.not_le.mpr hbl
  obtain ⟨r, M', N', hF, hG, hR⟩ := op_lay tl tt ht hRel (xs (x3 + 1).toNatClampNeg) (xs (x3 + 2).toNatClampNeg) (xs (x3 + 3).toNatClampNeg)
  refine lv_aload_n hx hb dL_law_261 rfl (lv_at hl 1 rfl) ?_
  refine lv_aload_n hx hb dL_law_262 rfl (lv_at hl 0 rfl) ?_
  refine lv_iload_n hx hb dL_law_263 rfl (lv_at hl 3 rfl) ?_
  refine lv_iconst hx hb dL_law_264 ic_1 ?_
  refine lv_iadd hx hb dL_law_265 ?_
  refine va_sld hx hb hX hbl hbA hS i1 dL_law_266 ?_
  refine lv_aload_n hx hb dL_law_267 rfl (lv_at hl 0 rfl) ?_
  refine lv_iload_n hx hb dL_law_268 rfl (lv_at hl 3 rfl) ?_
  refine lv_iconst hx hb dL_law_269 ic_2 ?_
  refine lv_iadd hx hb dL_law_270 ?_
  refine va_sld hx hb hX hbl hbA hS i2 dL_law_271 ?_
  refine lv_aload_n hx hb dL_law_272 rfl (lv_at hl 0 rfl) ?_
  refine lv_iload_n hx hb dL_law_273 rfl (lv_at hl 3 rfl) ?_
  refine lv_iconst hx hb dL_law_274 ic_3 ?_
  refine lv_iadd hx hb dL_law_275 ?_
  refine va_sld hx hb hX hbl hbA hS i3 dL_law_276 ?_
  refine law_Ci C0 (lw' := lw) (tl' := tl) (tt' := tt) (M' := M') tC hl.1 (as := [vI (xs (x3 + 1).toNatClampNeg), vI (xs (x3 + 2).toNatClampNeg), vI (xs (x3 + 3).toNatClampNeg)]) w hS dL_law_277 cw_X8_lay ml_L_18 mi_X8_lay se_X8_lay (Nat.zero_le _) (Nat.le_of_ble_eq_true rfl) (m_X8_lay lw tl tt M (xs (x3 + 1).toNatClampNeg) (xs (x3 + 2).toNatClampNeg) (xs (x3 + 3).toNatClampNeg) r M' hF) rfl ?_
  intro H locs w hS
  refine lv_aload_n hx hb dL_law_280 rfl (lv_at hl 2 rfl) ?_
  refine lv_aload_n hx hb dL_law_281 rfl (lv_at hl 0 rfl) ?_
  refine lv_iload_n hx hb dL_law_282 rfl (lv_at hl 3 rfl) ?_
  refine lv_iconst hx hb dL_law_283 ic_1 ?_
  refine lv_iadd hx hb dL_law_284 ?_
  refine va_sld hx hb hX hbl hbA hS i1 dL_law_285 ?_
  refine lv_aload_n hx hb dL_law_286 rfl (lv_at hl 0 rfl) ?_
  refine lv_iload_n hx hb dL_law_287 rfl (lv_at hl 3 rfl) ?_
  refine lv_iconst hx hb dL_law_288 ic_2 ?_
  refine lv_iadd hx hb dL_law_289 ?_
  refine va_sld hx hb hX hbl hbA hS i2 dL_law_290 ?_
  refine lv_aload_n hx hb dL_law_291 rfl (lv_at hl 0 rfl) ?_
  refine lv_iload_n hx hb dL_law_292 rfl (lv_at hl 3 rfl) ?_
  refine lv_iconst hx hb dL_law_293 ic_3 ?_
  refine lv_iadd hx hb dL_law_294 ?_
  refine va_sld hx hb hX hbl hbA hS i3 dL_law_295 ?_
  refine law_Mi C0 (N' := N') tM hl.1 (as := [vI (xs (x3 + 1).toNatClampNeg), vI (xs (x3 + 2).toNatClampNeg), vI (xs (x3 + 3).toNatClampNeg)]) w hS dL_law_296 cw_X9_lay ml_L_22 mi_X9_lay se_X9_lay (Nat.le_of_ble_eq_true rfl) (Nat.le_of_ble_eq_true rfl) (m_X9_lay  N (xs (x3 + 1).toNatClampNeg) (xs (x3 + 2).toNatClampNeg) (xs (x3 + 3).toNatClampNeg) r N' hG) rfl ?_
  intro H locs w hS
  refine lv_icmp_eq (tgt := 1556) hx hb dL_law_299 (by decide) (fun _ => ?_) (fun hc => absurd rfl hc)
  exact hnext lw tl tt M' N' hR H locs w hS
set_option maxRecDepth 100000 in
set_option maxHeartbeats 4000000 in
theorem law_case_2 {p : Program} {l : Launch} {e : Env} {s : State} {m : MethodId} {below : List Frame} {meth : Method} {c : Code} {b L : Nat} {xs : Nat → Int32} (C0 : lw_At p s m meth c b L xs) {dC : Nat → ClassId} {dI : Nat → Nat → Nat} {adC adM : Nat → Nat} {ca : Nat → ClassId} {lw : Nat → Option Nat} {tl tt : Option Nat} {M N : Mem} (tC : St adC (fun q : Nat => s.heap.size ≤ q) s s.heap) (tM : St adM (fun q : Nat => s.heap.size ≤ q) s s.heap) {tm : Nat} (ht : tm ≤ 3100) (hRel : Rel tm lw M N) {x3 : Int32} (i1 : vp_in (x3 + 1) L) (i2 : vp_in (x3 + 2) L) (i3 : vp_in (x3 + 3) L) (i4 : vp_in (x3 + 4) L) (i5 : vp_in (x3 + 5) L) {ls : Array Slot} (hl : lv_has ls 4 [(0, .ref b), (1, .ref (adC 0)), (2, .ref (adM 0)), (3, .int x3)])
    (hnext : ∀ (lw' : Nat → Option Nat) (tl' tt' : Option Nat) (M' N' : Mem), Rel (tm + 1) lw' M' N' → ∀ (H : Heap) (locs : List Loc), W2 dC dI adC adM ca (fun q : Nat => s.heap.size ≤ q) lw' tl' tt' M' N' s H → va_S (fun q : Nat => s.heap.size ≤ q) s.heap H locs → W p l e room_1 s m #[Value.ref b] below meth c H locs 80 2300 (lw_Z below #[Value.ref b] s) (F0 m 1556 ls [])) (H : Heap) (locs : List Loc) (w : W2 dC dI adC adM ca (fun q : Nat => s.heap.size ≤ q) lw tl tt M N s H) (hS : va_S (fun q : Nat => s.heap.size ≤ q) s.heap H locs) : W p l e room_1 s m #[Value.ref b] below meth c H locs 80 2300 (lw_Z below #[Value.ref b] s) (F0 m 304 ls []) := by
  obtain ⟨hx, hb, hr, hml, hown, hts0, hX, hbl, hlocks, hgv⟩ := id C0
  have hbA : ¬ (fun q : Nat => s.heap.size ≤ q) b := Nat.not_le.mpr hbl
  obtain ⟨r, M', N', hF, hG, hR⟩ := op_at tl tt ht hRel (xs (x3 + 1).toNatClampNeg) (xs (x3 + 2).toNatClampNeg)
  refine lv_aload_n hx hb dL_law_304 rfl (lv_at hl 1 rfl) ?_
  refine lv_aload_n hx hb dL_law_305 rfl (lv_at hl 0 rfl) ?_
  refine lv_iload_n hx hb dL_law_306 rfl (lv_at hl 3 rfl) ?_
  refine lv_iconst hx hb dL_law_307 ic_1 ?_
  refine lv_iadd hx hb dL_law_308 ?_
  refine va_sld hx hb hX hbl hbA hS i1 dL_law_309 ?_
  refine lv_aload_n hx hb dL_law_310 rfl (lv_at hl 0 rfl) ?_
  refine lv_iload_n hx hb dL_law_311 rfl (lv_at hl 3 rfl) ?_
  refine lv_iconst hx hb dL_law_312 ic_2 ?_
  refine lv_iadd hx hb dL_law_313 ?_
  refine va_sld hx hb hX hbl hbA hS i2 dL_law_314 ?_
  refine law_Ci C0 (lw' := lw) (tl' := tl) (tt' := tt) (M' := M') tC hl.1 (as := [vI (xs (x3 + 1).toNatClampNeg), vI (xs (x3 + 2).toNatClampNeg)]) w hS dL_law_315 cw_X8_at ml_L_23 mi_X8_at se_X8_at (Nat.zero_le _) (Nat.le_of_ble_eq_true rfl) (m_X8_at lw tl tt M (xs (x3 + 1).toNatClampNeg) (xs (x3 + 2).toNatClampNeg) r M' hF) rfl ?_
  intro H locs w hS
  refine lv_aload_n hx hb dL_law_318 rfl (lv_at hl 2 rfl) ?_
  refine lv_aload_n hx hb dL_law_319 rfl (lv_at hl 0 rfl) ?_
  refine lv_iload_n hx hb dL_law_320 rfl (lv_at hl 3 rfl) ?_
  refine lv_iconst hx hb dL_law_321 ic_1 ?_
  refine lv_iadd hx hb dL_law_322 ?_
  refine va_sld hx hb hX hbl hbA hS i1 dL_law_323 ?_
  refine lv_aload_n hx hb dL_law_324 rfl (lv_at hl 0 rfl) ?_
  refine lv_iload_n hx hb dL_law_325 rfl (lv_at hl 3 rfl) ?_
  refine lv_iconst hx hb dL_law_326 ic_2 ?_
  refine lv_iadd hx hb dL_law_327 ?_
  refine va_sld hx hb hX hbl hbA hS i2 dL_law_328 ?_
  refine law_Mi C0 (N' := N') tM hl.1 (as := [vI (xs (x3 + 1).toNatClampNeg), vI (xs (x3 + 2).toNatClampNeg)]) w hS dL_law_329 cw_X9_at ml_L_26 mi_X9_at se_X9_at (Nat.le_of_ble_eq_true rfl) (Nat.le_of_ble_eq_true rfl) (m_X9_at  N (xs (x3 + 1).toNatClampNeg) (xs (x3 + 2).toNatClampNeg) r N' hG) rfl ?_
  intro H locs w hS
  refine lv_icmp_eq (tgt := 1556) hx hb dL_law_332 (by decide) (fun _ => ?_) (fun hc => absurd rfl hc)
  exact hnext lw tl tt M' N' hR H locs w hS
set_option maxRecDepth 100000 in
set_option maxHeartbeats 4000000 in
theorem law_case_3 {p : Program} {l : Launch} {e : Env} {s : State} {m : MethodId} {below : List Frame} {meth : Method} {c : Code} {b L : Nat} {xs : Nat → Int32} (C0 : lw_At p s m meth c b L xs) {dC : Nat → ClassId} {dI : Nat → Nat → Nat} {adC adM : Nat → Nat} {ca : Nat → ClassId} {lw : Nat → Option Nat} {tl tt : Option Nat} {M N : Mem} (tC : St adC (fun q : Nat => s.heap.size ≤ q) s s.heap) (tM : St adM (fun q : Nat => s.heap.size ≤ q) s s.heap) {tm : Nat} (ht : tm ≤ 3100) (hRel : Rel tm lw M N) {x3 : Int32} (i1 : vp_in (x3 + 1) L) (i2 : vp_in (x3 + 2) L) (i3 : vp_in (x3 + 3) L) (i4 : vp_in (x3 + 4) L) (i5 : vp_in (x3 + 5) L) {ls : Array Slot} (hl : lv_has ls 4 [(0, .ref b), (1, .ref (adC 0)), (2, .ref (adM 0)), (3, .int x3)])
    (hnext : ∀ (lw' : Nat → Option Nat) (tl' tt' : Option Nat) (M' N' : Mem), Rel (tm + 1) lw' M' N' → ∀ (H : Heap) (locs : List Loc), W2 dC dI adC adM ca (fun q : Nat => s.heap.size ≤ q) lw' tl' tt' M' N' s H → va_S (fun q : Nat => s.heap.size ≤ q) s.heap H locs → W p l e room_1 s m #[Value.ref b] below meth c H locs 80 2300 (lw_Z below #[Value.ref b] s) (F0 m 1556 ls [])) (H : Heap) (locs : List Loc) (w : W2 dC dI adC adM ca (fun q : Nat => s.heap.size ≤ q) lw tl tt M N s H) (hS : va_S (fun q : Nat => s.heap.size ≤ q) s.heap H locs) : W p l e room_1 s m #[Value.ref b] below meth c H locs 80 2300 (lw_Z below #[Value.ref b] s) (F0 m 337 ls []) := by
  obtain ⟨hx, hb, hr, hml, hown, hts0, hX, hbl, hlocks, hgv⟩ := id C0
  have hbA : ¬ (fun q : Nat => s.heap.size ≤ q) b := Nat.not_le.mpr hbl
  obtain ⟨r, M', N', hF, hG, hR⟩ := op_tear tl tt ht hRel (xs (x3 + 1).toNatClampNeg)
  refine lv_aload_n hx hb dL_law_337 rfl (lv_at hl 1 rfl) ?_
  refine lv_aload_n hx hb dL_law_338 rfl (lv_at hl 0 rfl) ?_
  refine lv_iload_n hx hb dL_law_339 rfl (lv_at hl 3 rfl) ?_
  refine lv_iconst hx hb dL_law_340 ic_1 ?_
  refine lv_iadd hx hb dL_law_341 ?_
  refine va_sld hx hb hX hbl hbA hS i1 dL_law_342 ?_
  refine law_Ci C0 (lw' := lw) (tl' := tl) (tt' := tt) (M' := M') tC hl.1 (as := [vI (xs (x3 + 1).toNatClampNeg)]) w hS dL_law_343 cw_X8_tear ml_L_27 mi_X8_tear se_X8_tear (Nat.zero_le _) (Nat.le_of_ble_eq_true rfl) (m_X8_tear lw tl tt M (xs (x3 + 1).toNatClampNeg) r M' hF) rfl ?_
  intro H locs w hS
  refine lv_aload_n hx hb dL_law_346 rfl (lv_at hl 2 rfl) ?_
  refine lv_aload_n hx hb dL_law_347 rfl (lv_at hl 0 rfl) ?_
  refine lv_iload_n hx hb dL_law_348 rfl (lv_at hl 3 rfl) ?_
  refine lv_iconst hx hb dL_law_349 ic_1 ?_
  refine lv_iadd hx hb dL_law_350 ?_
  refine va_sld hx hb hX hbl hbA hS i1 dL_law_351 ?_
  refine law_Mi C0 (N' := N') tM hl.1 (as := [vI (xs (x3 + 1).toNatClampNeg)]) w hS dL_law_352 cw_X9_tear ml_L_31 mi_X9_tear se_X9_tear (Nat.le_of_ble_eq_true rfl) (Nat.le_of_ble_eq_true rfl) (m_X9_tear  N (xs (x3 + 1).toNatClampNeg) r N' hG) rfl ?_
  intro H locs w hS
  refine lv_icmp_eq (tgt := 1556) hx hb dL_law_355 (by decide) (fun _ => ?_) (fun hc => absurd rfl hc)
  exact hnext lw tl tt M' N' hR H locs w hS
set_option maxRecDepth 100000 in
set_option maxHeartbeats 4000000 in
theorem law_case_4 {p : Program} {l : Launch} {e : Env} {s : State} {m : MethodId} {below : List Frame} {meth : Method} {c : Code} {b L : Nat} {xs : Nat → Int32} (C0 : lw_At p s m meth c b L xs) {dC : Nat → ClassId} {dI : Nat → Nat → Nat} {adC adM : Nat → Nat} {ca : Nat → ClassId} {lw : Nat → Option Nat} {tl tt : Option Nat} {M N : Mem} (tC : St adC (fun q : Nat => s.heap.size ≤ q) s s.heap) (tM : St adM (fun q : Nat => s.heap.size ≤ q) s s.heap) {tm : Nat} (ht : tm ≤ 3100) (hRel : Rel tm lw M N) {x3 : Int32} (i1 : vp_in (x3 + 1) L) (i2 : vp_in (x3 + 2) L) (i3 : vp_in (x3 + 3) L) (i4 : vp_in (x3 + 4) L) (i5 : vp_in (x3 + 5) L) {ls : Array Slot} (hl : lv_has ls 4 [(0, .ref b), (1, .ref (adC 0)), (2, .ref (adM 0)), (3, .int x3)])
    (hnext : ∀ (lw' : Nat → Option Nat) (tl' tt' : Option Nat) (M' N' : Mem), Rel (tm + 1) lw' M' N' → ∀ (H : Heap) (locs : List Loc), W2 dC dI adC adM ca (fun q : Nat => s.heap.size ≤ q) lw' tl' tt' M' N' s H → va_S (fun q : Nat => s.heap.size ≤ q) s.heap H locs → W p l e room_1 s m #[Value.ref b] below meth c H locs 80 2300 (lw_Z below #[Value.ref b] s) (F0 m 1556 ls [])) (H : Heap) (locs : List Loc) (w : W2 dC dI adC adM ca (fun q : Nat => s.heap.size ≤ q) lw tl tt M N s H) (hS : va_S (fun q : Nat => s.heap.size ≤ q) s.heap H locs) : W p l e room_1 s m #[Value.ref b] below meth c H locs 80 2300 (lw_Z below #[Value.ref b] s) (F0 m 360 ls []) := by
  obtain ⟨hx, hb, hr, hml, hown, hts0, hX, hbl, hlocks, hgv⟩ := id C0
  have hbA : ¬ (fun q : Nat => s.heap.size ≤ q) b := Nat.not_le.mpr hbl
  obtain ⟨r, M', N', hF, hG, hR⟩ := op_copy tl tt ht hRel (xs (x3 + 1).toNatClampNeg) (xs (x3 + 2).toNatClampNeg) (xs (x3 + 3).toNatClampNeg) (xs (x3 + 4).toNatClampNeg) (xs (x3 + 5).toNatClampNeg)
  refine lv_aload_n hx hb dL_law_360 rfl (lv_at hl 1 rfl) ?_
  refine lv_aload_n hx hb dL_law_361 rfl (lv_at hl 0 rfl) ?_
  refine lv_iload_n hx hb dL_law_362 rfl (lv_at hl 3 rfl) ?_
  refine lv_iconst hx hb dL_law_363 ic_1 ?_
  refine lv_iadd hx hb dL_law_364 ?_
  refine va_sld hx hb hX hbl hbA hS i1 dL_law_365 ?_
  refine lv_aload_n hx hb dL_law_366 rfl (lv_at hl 0 rfl) ?_
  refine lv_iload_n hx hb dL_law_367 rfl (lv_at hl 3 rfl) ?_
  refine lv_iconst hx hb dL_law_368 ic_2 ?_
  refine lv_iadd hx hb dL_law_369 ?_
  refine va_sld hx hb hX hbl hbA hS i2 dL_law_370 ?_
  refine lv_aload_n hx hb dL_law_371 rfl (lv_at hl 0 rfl) ?_
  refine lv_iload_n hx hb dL_law_372 rfl (lv_at hl 3 rfl) ?_
  refine lv_iconst hx hb dL_law_373 ic_3 ?_
  refine lv_iadd hx hb dL_law_374 ?_
  refine va_sld hx hb hX hbl hbA hS i3 dL_law_375 ?_
  refine lv_aload_n hx hb dL_law_376 rfl (lv_at hl 0 rfl) ?_
  refine lv_iload_n hx hb dL_law_377 rfl (lv_at hl 3 rfl) ?_
  refine lv_iconst hx hb dL_law_378 ic_4 ?_
  refine lv_iadd hx hb dL_law_379 ?_
  refine va_sld hx hb hX hbl hbA hS i4 dL_law_380 ?_
  refine lv_aload_n hx hb dL_law_381 rfl (lv_at hl 0 rfl) ?_
  refine lv_iload_n hx hb dL_law_382 rfl (lv_at hl 3 rfl) ?_
  refine lv_iconst hx hb dL_law_383 ic_5 ?_
  refine lv_iadd hx hb dL_law_384 ?_
  refine va_sld hx hb hX hbl hbA hS i5 dL_law_385 ?_
  refine law_Ci C0 (lw' := lw) (tl' := tl) (tt' := tt) (M' := M') tC hl.1 (as := [vI (xs (x3 + 1).toNatClampNeg), vI (xs (x3 + 2).toNatClampNeg), vI (xs (x3 + 3).toNatClampNeg), vI (xs (x3 + 4).toNatClampNeg), vI (xs (x3 + 5).toNatClampNeg)]) w hS dL_law_386 cw_X8_copy ml_L_32 mi_X8_copy se_X8_copy (Nat.zero_le _) (Nat.le_of_ble_eq_true rfl) (m_X8_copy lw tl tt M (xs (x3 + 1).toNatClampNeg) (xs (x3 + 2).toNatClampNeg) (xs (x3 + 3).toNatClampNeg) (xs (x3 + 4).toNatClampNeg) (xs (x3 + 5).toNatClampNeg) r M' hF) rfl ?_
  intro H locs w hS
  refine lv_aload_n hx hb dL_law_389 rfl (lv_at hl 2 rfl) ?_
  refine lv_aload_n hx hb dL_law_390 rfl (lv_at hl 0 rfl) ?_
  refine lv_iload_n hx hb dL_law_391 rfl (lv_at hl 3 rfl) ?_
  refine lv_iconst hx hb dL_law_392 ic_1 ?_
  refine lv_iadd hx hb dL_law_393 ?_
  refine va_sld hx hb hX hbl hbA hS i1 dL_law_394 ?_
  refine lv_aload_n hx hb dL_law_395 rfl (lv_at hl 0 rfl) ?_
  refine lv_iload_n hx hb dL_law_396 rfl (lv_at hl 3 rfl) ?_
  refine lv_iconst hx hb dL_law_397 ic_2 ?_
  refine lv_iadd hx hb dL_law_398 ?_
  refine va_sld hx hb hX hbl hbA hS i2 dL_law_399 ?_
  refine lv_aload_n hx hb dL_law_400 rfl (lv_at hl 0 rfl) ?_
  refine lv_iload_n hx hb dL_law_401 rfl (lv_at hl 3 rfl) ?_
  refine lv_iconst hx hb dL_law_402 ic_3 ?_
  refine lv_iadd hx hb dL_law_403 ?_
  refine va_sld hx hb hX hbl hbA hS i3 dL_law_404 ?_
  refine lv_aload_n hx hb dL_law_405 rfl (lv_at hl 0 rfl) ?_
  refine lv_iload_n hx hb dL_law_406 rfl (lv_at hl 3 rfl) ?_
  refine lv_iconst hx hb dL_law_407 ic_4 ?_
  refine lv_iadd hx hb dL_law_408 ?_
  refine va_sld hx hb hX hbl hbA hS i4 dL_law_409 ?_
  refine lv_aload_n hx hb dL_law_410 rfl (lv_at hl 0 rfl) ?_
  refine lv_iload_n hx hb dL_law_411 rfl (lv_at hl 3 rfl) ?_
  refine lv_iconst hx hb dL_law_412 ic_5 ?_
  refine lv_iadd hx hb dL_law_413 ?_
  refine va_sld hx hb hX hbl hbA hS i5 dL_law_414 ?_
  refine law_Mi C0 (N' := N') tM hl.1 (as := [vI (xs (x3 + 1).toNatClampNeg), vI (xs (x3 + 2).toNatClampNeg), vI (xs (x3 + 3).toNatClampNeg), vI (xs (x3 + 4).toNatClampNeg), vI (xs (x3 + 5).toNatClampNeg)]) w hS dL_law_415 cw_X9_copy ml_L_36 mi_X9_copy se_X9_copy (Nat.le_of_ble_eq_true rfl) (Nat.le_of_ble_eq_true rfl) (m_X9_copy  N (xs (x3 + 1).toNatClampNeg) (xs (x3 + 2).toNatClampNeg) (xs (x3 + 3).toNatClampNeg) (xs (x3 + 4).toNatClampNeg) (xs (x3 + 5).toNatClampNeg) r N' hG) rfl ?_
  intro H locs w hS
  refine lv_icmp_eq (tgt := 1556) hx hb dL_law_418 (by decide) (fun _ => ?_) (fun hc => absurd rfl hc)
  exact hnext lw tl tt M' N' hR H locs w hS
set_option maxRecDepth 100000 in
set_option maxHeartbeats 4000000 in
theorem law_case_5 {p : Program} {l : Launch} {e : Env} {s : State} {m : MethodId} {below : List Frame} {meth : Method} {c : Code} {b L : Nat} {xs : Nat → Int32} (C0 : lw_At p s m meth c b L xs) {dC : Nat → ClassId} {dI : Nat → Nat → Nat} {adC adM : Nat → Nat} {ca : Nat → ClassId} {lw : Nat → Option Nat} {tl tt : Option Nat} {M N : Mem} (tC : St adC (fun q : Nat => s.heap.size ≤ q) s s.heap) (tM : St adM (fun q : Nat => s.heap.size ≤ q) s s.heap) {tm : Nat} (ht : tm ≤ 3100) (hRel : Rel tm lw M N) {x3 : Int32} (i1 : vp_in (x3 + 1) L) (i2 : vp_in (x3 + 2) L) (i3 : vp_in (x3 + 3) L) (i4 : vp_in (x3 + 4) L) (i5 : vp_in (x3 + 5) L) {ls : Array Slot} (hl : lv_has ls 4 [(0, .ref b), (1, .ref (adC 0)), (2, .ref (adM 0)), (3, .int x3)])
    (hnext : ∀ (lw' : Nat → Option Nat) (tl' tt' : Option Nat) (M' N' : Mem), Rel (tm + 1) lw' M' N' → ∀ (H : Heap) (locs : List Loc), W2 dC dI adC adM ca (fun q : Nat => s.heap.size ≤ q) lw' tl' tt' M' N' s H → va_S (fun q : Nat => s.heap.size ≤ q) s.heap H locs → W p l e room_1 s m #[Value.ref b] below meth c H locs 80 2300 (lw_Z below #[Value.ref b] s) (F0 m 1556 ls [])) (H : Heap) (locs : List Loc) (w : W2 dC dI adC adM ca (fun q : Nat => s.heap.size ≤ q) lw tl tt M N s H) (hS : va_S (fun q : Nat => s.heap.size ≤ q) s.heap H locs) : W p l e room_1 s m #[Value.ref b] below meth c H locs 80 2300 (lw_Z below #[Value.ref b] s) (F0 m 423 ls []) := by
  obtain ⟨hx, hb, hr, hml, hown, hts0, hX, hbl, hlocks, hgv⟩ := id C0
  have hbA : ¬ (fun q : Nat => s.heap.size ≤ q) b := Nat.not_le.mpr hbl
  obtain ⟨r, M', N', hF, hG, hR⟩ := op_mean tl tt ht hRel (xs (x3 + 1).toNatClampNeg)
  refine lv_aload_n hx hb dL_law_423 rfl (lv_at hl 1 rfl) ?_
  refine lv_aload_n hx hb dL_law_424 rfl (lv_at hl 0 rfl) ?_
  refine lv_iload_n hx hb dL_law_425 rfl (lv_at hl 3 rfl) ?_
  refine lv_iconst hx hb dL_law_426 ic_1 ?_
  refine lv_iadd hx hb dL_law_427 ?_
  refine va_sld hx hb hX hbl hbA hS i1 dL_law_428 ?_
  refine law_Ci C0 (lw' := lw) (tl' := tl) (tt' := tt) (M' := M') tC hl.1 (as := [vI (xs (x3 + 1).toNatClampNeg)]) w hS dL_law_429 cw_X8_mean ml_L_37 mi_X8_mean se_X8_mean (Nat.zero_le _) (Nat.le_of_ble_eq_true rfl) (m_X8_mean lw tl tt M (xs (x3 + 1).toNatClampNeg) r M' hF) rfl ?_
  intro H locs w hS
  refine lv_aload_n hx hb dL_law_432 rfl (lv_at hl 2 rfl) ?_
  refine lv_aload_n hx hb dL_law_433 rfl (lv_at hl 0 rfl) ?_
  refine lv_iload_n hx hb dL_law_434 rfl (lv_at hl 3 rfl) ?_
  refine lv_iconst hx hb dL_law_435 ic_1 ?_
  refine lv_iadd hx hb dL_law_436 ?_
  refine va_sld hx hb hX hbl hbA hS i1 dL_law_437 ?_
  refine law_Mi C0 (N' := N') tM hl.1 (as := [vI (xs (x3 + 1).toNatClampNeg)]) w hS dL_law_438 cw_X9_mean ml_L_40 mi_X9_mean se_X9_mean (Nat.le_of_ble_eq_true rfl) (Nat.le_of_ble_eq_true rfl) (m_X9_mean  N (xs (x3 + 1).toNatClampNeg) r N' hG) rfl ?_
  intro H locs w hS
  refine lv_icmp_eq (tgt := 1556) hx hb dL_law_441 (by decide) (fun _ => ?_) (fun hc => absurd rfl hc)
  exact hnext lw tl tt M' N' hR H locs w hS
set_option maxRecDepth 100000 in
set_option maxHeartbeats 4000000 in
theorem law_case_6 {p : Program} {l : Launch} {e : Env} {s : State} {m : MethodId} {below : List Frame} {meth : Method} {c : Code} {b L : Nat} {xs : Nat → Int32} (C0 : lw_At p s m meth c b L xs) {dC : Nat → ClassId} {dI : Nat → Nat → Nat} {adC adM : Nat → Nat} {ca : Nat → ClassId} {lw : Nat → Option Nat} {tl tt : Option Nat} {M N : Mem} (tC : St adC (fun q : Nat => s.heap.size ≤ q) s s.heap) (tM : St adM (fun q : Nat => s.heap.size ≤ q) s s.heap) {tm : Nat} (ht : tm ≤ 3100) (hRel : Rel tm lw M N) {x3 : Int32} (i1 : vp_in (x3 + 1) L) (i2 : vp_in (x3 + 2) L) (i3 : vp_in (x3 + 3) L) (i4 : vp_in (x3 + 4) L) (i5 : vp_in (x3 + 5) L) {ls : Array Slot} (hl : lv_has ls 4 [(0, .ref b), (1, .ref (adC 0)), (2, .ref (adM 0)), (3, .int x3)])
    (hnext : ∀ (lw' : Nat → Option Nat) (tl' tt' : Option Nat) (M' N' : Mem), Rel (tm + 1) lw' M' N' → ∀ (H : Heap) (locs : List Loc), W2 dC dI adC adM ca (fun q : Nat => s.heap.size ≤ q) lw' tl' tt' M' N' s H → va_S (fun q : Nat => s.heap.size ≤ q) s.heap H locs → W p l e room_1 s m #[Value.ref b] below meth c H locs 80 2300 (lw_Z below #[Value.ref b] s) (F0 m 1556 ls [])) (H : Heap) (locs : List Loc) (w : W2 dC dI adC adM ca (fun q : Nat => s.heap.size ≤ q) lw tl tt M N s H) (hS : va_S (fun q : Nat => s.heap.size ≤ q) s.heap H locs) : W p l e room_1 s m #[Value.ref b] below meth c H locs 80 2300 (lw_Z below #[Value.ref b] s) (F0 m 446 ls []) := by
  obtain ⟨hx, hb, hr, hml, hown, hts0, hX, hbl, hlocks, hgv⟩ := id C0
  have hbA : ¬ (fun q : Nat => s.heap.size ≤ q) b := Nat.not_le.mpr hbl
  obtain ⟨r, M', N', hF, hG, hR⟩ := op_text tl tt ht hRel (xs (x3 + 1).toNatClampNeg) (xs (x3 + 2).toNatClampNeg)
  refine lv_aload_n hx hb dL_law_446 rfl (lv_at hl 1 rfl) ?_
  refine lv_aload_n hx hb dL_law_447 rfl (lv_at hl 0 rfl) ?_
  refine lv_iload_n hx hb dL_law_448 rfl (lv_at hl 3 rfl) ?_
  refine lv_iconst hx hb dL_law_449 ic_1 ?_
  refine lv_iadd hx hb dL_law_450 ?_
  refine va_sld hx hb hX hbl hbA hS i1 dL_law_451 ?_
  refine lv_aload_n hx hb dL_law_452 rfl (lv_at hl 0 rfl) ?_
  refine lv_iload_n hx hb dL_law_453 rfl (lv_at hl 3 rfl) ?_
  refine lv_iconst hx hb dL_law_454 ic_2 ?_
  refine lv_iadd hx hb dL_law_455 ?_
  refine va_sld hx hb hX hbl hbA hS i2 dL_law_456 ?_
  refine law_Ci C0 (lw' := lw) (tl' := tl) (tt' := tt) (M' := M') tC hl.1 (as := [vI (xs (x3 + 1).toNatClampNeg), vI (xs (x3 + 2).toNatClampNeg)]) w hS dL_law_457 cw_X8_text ml_L_41 mi_X8_text se_X8_text (Nat.zero_le _) (Nat.le_of_ble_eq_true rfl) (m_X8_text lw tl tt M (xs (x3 + 1).toNatClampNeg) (xs (x3 + 2).toNatClampNeg) r M' hF) rfl ?_
  intro H locs w hS
  refine lv_aload_n hx hb dL_law_460 rfl (lv_at hl 2 rfl) ?_
  refine lv_aload_n hx hb dL_law_461 rfl (lv_at hl 0 rfl) ?_
  refine lv_iload_n hx hb dL_law_462 rfl (lv_at hl 3 rfl) ?_
  refine lv_iconst hx hb dL_law_463 ic_1 ?_
  refine lv_iadd hx hb dL_law_464 ?_
  refine va_sld hx hb hX hbl hbA hS i1 dL_law_465 ?_
  refine lv_aload_n hx hb dL_law_466 rfl (lv_at hl 0 rfl) ?_
  refine lv_iload_n hx hb dL_law_467 rfl (lv_at hl 3 rfl) ?_
  refine lv_iconst hx hb dL_law_468 ic_2 ?_
  refine lv_iadd hx hb dL_law_469 ?_
  refine va_sld hx hb hX hbl hbA hS i2 dL_law_470 ?_
  refine law_Mi C0 (N' := N') tM hl.1 (as := [vI (xs (x3 + 1).toNatClampNeg), vI (xs (x3 + 2).toNatClampNeg)]) w hS dL_law_471 cw_X9_text ml_L_44 mi_X9_text se_X9_text (Nat.le_of_ble_eq_true rfl) (Nat.le_of_ble_eq_true rfl) (m_X9_text  N (xs (x3 + 1).toNatClampNeg) (xs (x3 + 2).toNatClampNeg) r N' hG) rfl ?_
  intro H locs w hS
  refine lv_icmp_eq (tgt := 1556) hx hb dL_law_474 (by decide) (fun _ => ?_) (fun hc => absurd rfl hc)
  exact hnext lw tl tt M' N' hR H locs w hS
set_option maxRecDepth 100000 in
set_option maxHeartbeats 4000000 in
theorem law_case_7 {p : Program} {l : Launch} {e : Env} {s : State} {m : MethodId} {below : List Frame} {meth : Method} {c : Code} {b L : Nat} {xs : Nat → Int32} (C0 : lw_At p s m meth c b L xs) {dC : Nat → ClassId} {dI : Nat → Nat → Nat} {adC adM : Nat → Nat} {ca : Nat → ClassId} {lw : Nat → Option Nat} {tl tt : Option Nat} {M N : Mem} (tC : St adC (fun q : Nat => s.heap.size ≤ q) s s.heap) (tM : St adM (fun q : Nat => s.heap.size ≤ q) s s.heap) {tm : Nat} (ht : tm ≤ 3100) (hRel : Rel tm lw M N) {x3 : Int32} (i1 : vp_in (x3 + 1) L) (i2 : vp_in (x3 + 2) L) (i3 : vp_in (x3 + 3) L) (i4 : vp_in (x3 + 4) L) (i5 : vp_in (x3 + 5) L) {ls : Array Slot} (hl : lv_has ls 4 [(0, .ref b), (1, .ref (adC 0)), (2, .ref (adM 0)), (3, .int x3)])
    (hnext : ∀ (lw' : Nat → Option Nat) (tl' tt' : Option Nat) (M' N' : Mem), Rel (tm + 1) lw' M' N' → ∀ (H : Heap) (locs : List Loc), W2 dC dI adC adM ca (fun q : Nat => s.heap.size ≤ q) lw' tl' tt' M' N' s H → va_S (fun q : Nat => s.heap.size ≤ q) s.heap H locs → W p l e room_1 s m #[Value.ref b] below meth c H locs 80 2300 (lw_Z below #[Value.ref b] s) (F0 m 1556 ls [])) (H : Heap) (locs : List Loc) (w : W2 dC dI adC adM ca (fun q : Nat => s.heap.size ≤ q) lw tl tt M N s H) (hS : va_S (fun q : Nat => s.heap.size ≤ q) s.heap H locs) : W p l e room_1 s m #[Value.ref b] below meth c H locs 80 2300 (lw_Z below #[Value.ref b] s) (F0 m 479 ls []) := by
  obtain ⟨hx, hb, hr, hml, hown, hts0, hX, hbl, hlocks, hgv⟩ := id C0
  have hbA : ¬ (fun q : Nat => s.heap.size ≤ q) b := Nat.not_le.mpr hbl
  obtain ⟨r, M', N', hF, hG, hR⟩ := op_put tl tt ht hRel (xs (x3 + 1).toNatClampNeg) (xs (x3 + 2).toNatClampNeg) (xs (x3 + 3).toNatClampNeg)
  refine lv_aload_n hx hb dL_law_479 rfl (lv_at hl 1 rfl) ?_
  refine lv_aload_n hx hb dL_law_480 rfl (lv_at hl 0 rfl) ?_
  refine lv_iload_n hx hb dL_law_481 rfl (lv_at hl 3 rfl) ?_
  refine lv_iconst hx hb dL_law_482 ic_1 ?_
  refine lv_iadd hx hb dL_law_483 ?_
  refine va_sld hx hb hX hbl hbA hS i1 dL_law_484 ?_
  refine lv_aload_n hx hb dL_law_485 rfl (lv_at hl 0 rfl) ?_
  refine lv_iload_n hx hb dL_law_486 rfl (lv_at hl 3 rfl) ?_
  refine lv_iconst hx hb dL_law_487 ic_2 ?_
  refine lv_iadd hx hb dL_law_488 ?_
  refine va_sld hx hb hX hbl hbA hS i2 dL_law_489 ?_
  refine lv_aload_n hx hb dL_law_490 rfl (lv_at hl 0 rfl) ?_
  refine lv_iload_n hx hb dL_law_491 rfl (lv_at hl 3 rfl) ?_
  refine lv_iconst hx hb dL_law_492 ic_3 ?_
  refine lv_iadd hx hb dL_law_493 ?_
  refine va_sld hx hb hX hbl hbA hS i3 dL_law_494 ?_
  refine law_Ci C0 (lw' := lw) (tl' := tl) (tt' := tt) (M' := M') tC hl.1 (as := [vI (xs (x3 + 1).toNatClampNeg), vI (xs (x3 + 2).toNatClampNeg), vI (xs (x3 + 3).toNatClampNeg)]) w hS dL_law_495 cw_X8_put ml_L_45 mi_X8_put se_X8_put (Nat.zero_le _) (Nat.le_of_ble_eq_true rfl) (m_X8_put lw tl tt M (xs (x3 + 1).toNatClampNeg) (xs (x3 + 2).toNatClampNeg) (xs (x3 + 3).toNatClampNeg) r M' hF) rfl ?_
  intro H locs w hS
  refine lv_aload_n hx hb dL_law_498 rfl (lv_at hl 2 rfl) ?_
  refine lv_aload_n hx hb dL_law_499 rfl (lv_at hl 0 rfl) ?_
  refine lv_iload_n hx hb dL_law_500 rfl (lv_at hl 3 rfl) ?_
  refine lv_iconst hx hb dL_law_501 ic_1 ?_
  refine lv_iadd hx hb dL_law_502 ?_
  refine va_sld hx hb hX hbl hbA hS i1 dL_law_503 ?_
  refine lv_aload_n hx hb dL_law_504 rfl (lv_at hl 0 rfl) ?_
  refine lv_iload_n hx hb dL_law_505 rfl (lv_at hl 3 rfl) ?_
  refine lv_iconst hx hb dL_law_506 ic_2 ?_
  refine lv_iadd hx hb dL_law_507 ?_
  refine va_sld hx hb hX hbl hbA hS i2 dL_law_508 ?_
  refine lv_aload_n hx hb dL_law_509 rfl (lv_at hl 0 rfl) ?_
  refine lv_iload_n hx hb dL_law_510 rfl (lv_at hl 3 rfl) ?_
  refine lv_iconst hx hb dL_law_511 ic_3 ?_
  refine lv_iadd hx hb dL_law_512 ?_
  refine va_sld hx hb hX hbl hbA hS i3 dL_law_513 ?_
  refine law_Mi C0 (N' := N') tM hl.1 (as := [vI (xs (x3 + 1).toNatClampNeg), vI (xs (x3 + 2).toNatClampNeg), vI (xs (x3 + 3).toNatClampNeg)]) w hS dL_law_514 cw_X9_put ml_L_48 mi_X9_put se_X9_put (Nat.le_of_ble_eq_true rfl) (Nat.le_of_ble_eq_true rfl) (m_X9_put  N (xs (x3 + 1).toNatClampNeg) (xs (x3 + 2).toNatClampNeg) (xs (x3 + 3).toNatClampNeg) r N' hG) rfl ?_
  intro H locs w hS
  refine lv_icmp_eq (tgt := 1556) hx hb dL_law_517 (by decide) (fun _ => ?_) (fun hc => absurd rfl hc)
  exact hnext lw tl tt M' N' hR H locs w hS
set_option maxRecDepth 100000 in
set_option maxHeartbeats 4000000 in
theorem law_case_8 {p : Program} {l : Launch} {e : Env} {s : State} {m : MethodId} {below : List Frame} {meth : Method} {c : Code} {b L : Nat} {xs : Nat → Int32} (C0 : lw_At p s m meth c b L xs) {dC : Nat → ClassId} {dI : Nat → Nat → Nat} {adC adM : Nat → Nat} {ca : Nat → ClassId} {lw : Nat → Option Nat} {tl tt : Option Nat} {M N : Mem} (tC : St adC (fun q : Nat => s.heap.size ≤ q) s s.heap) (tM : St adM (fun q : Nat => s.heap.size ≤ q) s s.heap) {tm : Nat} (ht : tm ≤ 3100) (hRel : Rel tm lw M N) {x3 : Int32} (i1 : vp_in (x3 + 1) L) (i2 : vp_in (x3 + 2) L) (i3 : vp_in (x3 + 3) L) (i4 : vp_in (x3 + 4) L) (i5 : vp_in (x3 + 5) L) {ls : Array Slot} (hl : lv_has ls 4 [(0, .ref b), (1, .ref (adC 0)), (2, .ref (adM 0)), (3, .int x3)])
    (hnext : ∀ (lw' : Nat → Option Nat) (tl' tt' : Option Nat) (M' N' : Mem), Rel (tm + 1) lw' M' N' → ∀ (H : Heap) (locs : List Loc), W2 dC dI adC adM ca (fun q : Nat => s.heap.size ≤ q) lw' tl' tt' M' N' s H → va_S (fun q : Nat => s.heap.size ≤ q) s.heap H locs → W p l e room_1 s m #[Value.ref b] below meth c H locs 80 2300 (lw_Z below #[Value.ref b] s) (F0 m 1556 ls [])) (H : Heap) (locs : List Loc) (w : W2 dC dI adC adM ca (fun q : Nat => s.heap.size ≤ q) lw tl tt M N s H) (hS : va_S (fun q : Nat => s.heap.size ≤ q) s.heap H locs) : W p l e room_1 s m #[Value.ref b] below meth c H locs 80 2300 (lw_Z below #[Value.ref b] s) (F0 m 522 ls []) := by
  obtain ⟨hx, hb, hr, hml, hown, hts0, hX, hbl, hlocks, hgv⟩ := id C0
  have hbA : ¬ (fun q : Nat => s.heap.size ≤ q) b := Nat.not_le.mpr hbl
  obtain ⟨r, M', N', hF, hG, hR⟩ := op_fault tl tt ht hRel (xs (x3 + 1).toNatClampNeg)
  refine lv_aload_n hx hb dL_law_522 rfl (lv_at hl 1 rfl) ?_
  refine lv_aload_n hx hb dL_law_523 rfl (lv_at hl 0 rfl) ?_
  refine lv_iload_n hx hb dL_law_524 rfl (lv_at hl 3 rfl) ?_
  refine lv_iconst hx hb dL_law_525 ic_1 ?_
  refine lv_iadd hx hb dL_law_526 ?_
  refine va_sld hx hb hX hbl hbA hS i1 dL_law_527 ?_
  refine law_Ci C0 (lw' := lw) (tl' := tl) (tt' := tt) (M' := M') tC hl.1 (as := [vI (xs (x3 + 1).toNatClampNeg)]) w hS dL_law_528 cw_X8_fault ml_L_49 mi_X8_fault se_X8_fault (Nat.zero_le _) (Nat.le_of_ble_eq_true rfl) (m_X8_fault lw tl tt M (xs (x3 + 1).toNatClampNeg) r M' hF) rfl ?_
  intro H locs w hS
  refine lv_aload_n hx hb dL_law_531 rfl (lv_at hl 2 rfl) ?_
  refine lv_aload_n hx hb dL_law_532 rfl (lv_at hl 0 rfl) ?_
  refine lv_iload_n hx hb dL_law_533 rfl (lv_at hl 3 rfl) ?_
  refine lv_iconst hx hb dL_law_534 ic_1 ?_
  refine lv_iadd hx hb dL_law_535 ?_
  refine va_sld hx hb hX hbl hbA hS i1 dL_law_536 ?_
  refine law_Mi C0 (N' := N') tM hl.1 (as := [vI (xs (x3 + 1).toNatClampNeg)]) w hS dL_law_537 cw_X9_fault ml_L_52 mi_X9_fault se_X9_fault (Nat.le_of_ble_eq_true rfl) (Nat.le_of_ble_eq_true rfl) (m_X9_fault  N (xs (x3 + 1).toNatClampNeg) r N' hG) rfl ?_
  intro H locs w hS
  refine lv_icmp_eq (tgt := 1556) hx hb dL_law_540 (by decide) (fun _ => ?_) (fun hc => absurd rfl hc)
  exact hnext lw tl tt M' N' hR H locs w hS
set_option maxRecDepth 100000 in
set_option maxHeartbeats 4000000 in
theorem law_case_9 {p : Program} {l : Launch} {e : Env} {s : State} {m : MethodId} {below : List Frame} {meth : Method} {c : Code} {b L : Nat} {xs : Nat → Int32} (C0 : lw_At p s m meth c b L xs) {dC : Nat → ClassId} {dI : Nat → Nat → Nat} {adC adM : Nat → Nat} {ca : Nat → ClassId} {lw : Nat → Option Nat} {tl tt : Option Nat} {M N : Mem} (tC : St adC (fun q : Nat => s.heap.size ≤ q) s s.heap) (tM : St adM (fun q : Nat => s.heap.size ≤ q) s s.heap) {tm : Nat} (ht : tm ≤ 3100) (hRel : Rel tm lw M N) {x3 : Int32} (i1 : vp_in (x3 + 1) L) (i2 : vp_in (x3 + 2) L) (i3 : vp_in (x3 + 3) L) (i4 : vp_in (x3 + 4) L) (i5 : vp_in (x3 + 5) L) {ls : Array Slot} (hl : lv_has ls 4 [(0, .ref b), (1, .ref (adC 0)), (2, .ref (adM 0)), (3, .int x3)])
    (hnext : ∀ (lw' : Nat → Option Nat) (tl' tt' : Option Nat) (M' N' : Mem), Rel (tm + 1) lw' M' N' → ∀ (H : Heap) (locs : List Loc), W2 dC dI adC adM ca (fun q : Nat => s.heap.size ≤ q) lw' tl' tt' M' N' s H → va_S (fun q : Nat => s.heap.size ≤ q) s.heap H locs → W p l e room_1 s m #[Value.ref b] below meth c H locs 80 2300 (lw_Z below #[Value.ref b] s) (F0 m 1556 ls [])) (H : Heap) (locs : List Loc) (w : W2 dC dI adC adM ca (fun q : Nat => s.heap.size ≤ q) lw tl tt M N s H) (hS : va_S (fun q : Nat => s.heap.size ≤ q) s.heap H locs) : W p l e room_1 s m #[Value.ref b] below meth c H locs 80 2300 (lw_Z below #[Value.ref b] s) (F0 m 545 ls []) := by
  obtain ⟨hx, hb, hr, hml, hown, hts0, hX, hbl, hlocks, hgv⟩ := id C0
  have hbA : ¬ (fun q : Nat => s.heap.size ≤ q) b := Nat.not_le.mpr hbl
  obtain ⟨r, lw', M', N', hF, hG, hR⟩ := op_ground tl tt ht hRel (xs (x3 + 1).toNatClampNeg)
  refine lv_aload_n hx hb dL_law_545 rfl (lv_at hl 1 rfl) ?_
  refine lv_aload_n hx hb dL_law_546 rfl (lv_at hl 0 rfl) ?_
  refine lv_iload_n hx hb dL_law_547 rfl (lv_at hl 3 rfl) ?_
  refine lv_iconst hx hb dL_law_548 ic_1 ?_
  refine lv_iadd hx hb dL_law_549 ?_
  refine va_sld hx hb hX hbl hbA hS i1 dL_law_550 ?_
  refine law_Ci C0 (lw' := lw') (tl' := tl) (tt' := tt) (M' := M') tC hl.1 (as := [vI (xs (x3 + 1).toNatClampNeg)]) w hS dL_law_551 cw_X8_ground ml_L_53 mi_X8_ground se_X8_ground (Nat.zero_le _) (Nat.le_of_ble_eq_true rfl) (m_X8_ground tl tt lw M (xs (x3 + 1).toNatClampNeg) r lw' M' hF) rfl ?_
  intro H locs w hS
  refine lv_aload_n hx hb dL_law_554 rfl (lv_at hl 2 rfl) ?_
  refine lv_aload_n hx hb dL_law_555 rfl (lv_at hl 0 rfl) ?_
  refine lv_iload_n hx hb dL_law_556 rfl (lv_at hl 3 rfl) ?_
  refine lv_iconst hx hb dL_law_557 ic_1 ?_
  refine lv_iadd hx hb dL_law_558 ?_
  refine va_sld hx hb hX hbl hbA hS i1 dL_law_559 ?_
  refine law_Mi C0 (N' := N') tM hl.1 (as := [vI (xs (x3 + 1).toNatClampNeg)]) w hS dL_law_560 cw_X9_ground ml_L_56 mi_X9_ground se_X9_ground (Nat.le_of_ble_eq_true rfl) (Nat.le_of_ble_eq_true rfl) (m_X9_ground  N (xs (x3 + 1).toNatClampNeg) r N' hG) rfl ?_
  intro H locs w hS
  refine lv_icmp_eq (tgt := 1556) hx hb dL_law_563 (by decide) (fun _ => ?_) (fun hc => absurd rfl hc)
  exact hnext lw' tl tt M' N' hR H locs w hS
set_option maxRecDepth 100000 in
set_option maxHeartbeats 4000000 in
theorem law_case_10 {p : Program} {l : Launch} {e : Env} {s : State} {m : MethodId} {below : List Frame} {meth : Method} {c : Code} {b L : Nat} {xs : Nat → Int32} (C0 : lw_At p s m meth c b L xs) {dC : Nat → ClassId} {dI : Nat → Nat → Nat} {adC adM : Nat → Nat} {ca : Nat → ClassId} {lw : Nat → Option Nat} {tl tt : Option Nat} {M N : Mem} (tC : St adC (fun q : Nat => s.heap.size ≤ q) s s.heap) (tM : St adM (fun q : Nat => s.heap.size ≤ q) s s.heap) {tm : Nat} (ht : tm ≤ 3100) (hRel : Rel tm lw M N) {x3 : Int32} (i1 : vp_in (x3 + 1) L) (i2 : vp_in (x3 + 2) L) (i3 : vp_in (x3 + 3) L) (i4 : vp_in (x3 + 4) L) (i5 : vp_in (x3 + 5) L) {ls : Array Slot} (hl : lv_has ls 4 [(0, .ref b), (1, .ref (adC 0)), (2, .ref (adM 0)), (3, .int x3)])
    (hnext : ∀ (lw' : Nat → Option Nat) (tl' tt' : Option Nat) (M' N' : Mem), Rel (tm + 1) lw' M' N' → ∀ (H : Heap) (locs : List Loc), W2 dC dI adC adM ca (fun q : Nat => s.heap.size ≤ q) lw' tl' tt' M' N' s H → va_S (fun q : Nat => s.heap.size ≤ q) s.heap H locs → W p l e room_1 s m #[Value.ref b] below meth c H locs 80 2300 (lw_Z below #[Value.ref b] s) (F0 m 1556 ls [])) (H : Heap) (locs : List Loc) (w : W2 dC dI adC adM ca (fun q : Nat => s.heap.size ≤ q) lw tl tt M N s H) (hS : va_S (fun q : Nat => s.heap.size ≤ q) s.heap H locs) : W p l e room_1 s m #[Value.ref b] below meth c H locs 80 2300 (lw_Z below #[Value.ref b] s) (F0 m 568 ls []) := by
  obtain ⟨hx, hb, hr, hml, hown, hts0, hX, hbl, hlocks, hgv⟩ := id C0
  have hbA : ¬ (fun q : Nat => s.heap.size ≤ q) b := Nat.not_le.mpr hbl
  obtain ⟨r, M', N', hF, hG, hR⟩ := op_cell tl tt ht hRel (xs (x3 + 1).toNatClampNeg) (xs (x3 + 2).toNatClampNeg)
  refine lv_aload_n hx hb dL_law_568 rfl (lv_at hl 1 rfl) ?_
  refine lv_aload_n hx hb dL_law_569 rfl (lv_at hl 0 rfl) ?_
  refine lv_iload_n hx hb dL_law_570 rfl (lv_at hl 3 rfl) ?_
  refine lv_iconst hx hb dL_law_571 ic_1 ?_
  refine lv_iadd hx hb dL_law_572 ?_
  refine va_sld hx hb hX hbl hbA hS i1 dL_law_573 ?_
  refine lv_aload_n hx hb dL_law_574 rfl (lv_at hl 0 rfl) ?_
  refine lv_iload_n hx hb dL_law_575 rfl (lv_at hl 3 rfl) ?_
  refine lv_iconst hx hb dL_law_576 ic_2 ?_
  refine lv_iadd hx hb dL_law_577 ?_
  refine va_sld hx hb hX hbl hbA hS i2 dL_law_578 ?_
  refine law_Ci C0 (lw' := lw) (tl' := tl) (tt' := tt) (M' := M') tC hl.1 (as := [vI (xs (x3 + 1).toNatClampNeg), vI (xs (x3 + 2).toNatClampNeg)]) w hS dL_law_579 cw_X8_cell ml_L_57 mi_X8_cell se_X8_cell (Nat.zero_le _) (Nat.le_of_ble_eq_true rfl) (m_X8_cell lw tl tt M (xs (x3 + 1).toNatClampNeg) (xs (x3 + 2).toNatClampNeg) r M' hF) rfl ?_
  intro H locs w hS
  refine lv_aload_n hx hb dL_law_582 rfl (lv_at hl 2 rfl) ?_
  refine lv_aload_n hx hb dL_law_583 rfl (lv_at hl 0 rfl) ?_
  refine lv_iload_n hx hb dL_law_584 rfl (lv_at hl 3 rfl) ?_
  refine lv_iconst hx hb dL_law_585 ic_1 ?_
  refine lv_iadd hx hb dL_law_586 ?_
  refine va_sld hx hb hX hbl hbA hS i1 dL_law_587 ?_
  refine lv_aload_n hx hb dL_law_588 rfl (lv_at hl 0 rfl) ?_
  refine lv_iload_n hx hb dL_law_589 rfl (lv_at hl 3 rfl) ?_
  refine lv_iconst hx hb dL_law_590 ic_2 ?_
  refine lv_iadd hx hb dL_law_591 ?_
  refine va_sld hx hb hX hbl hbA hS i2 dL_law_592 ?_
  refine law_Mi C0 (N' := N') tM hl.1 (as := [vI (xs (x3 + 1).toNatClampNeg), vI (xs (x3 + 2).toNatClampNeg)]) w hS dL_law_593 cw_X9_cell ml_L_60 mi_X9_cell se_X9_cell (Nat.le_of_ble_eq_true rfl) (Nat.le_of_ble_eq_true rfl) (m_X9_cell  N (xs (x3 + 1).toNatClampNeg) (xs (x3 + 2).toNatClampNeg) r N' hG) rfl ?_
  intro H locs w hS
  refine lv_icmp_eq (tgt := 1556) hx hb dL_law_596 (by decide) (fun _ => ?_) (fun hc => absurd rfl hc)
  exact hnext lw tl tt M' N' hR H locs w hS
set_option maxRecDepth 100000 in
set_option maxHeartbeats 4000000 in
theorem law_case_11 {p : Program} {l : Launch} {e : Env} {s : State} {m : MethodId} {below : List Frame} {meth : Method} {c : Code} {b L : Nat} {xs : Nat → Int32} (C0 : lw_At p s m meth c b L xs) {dC : Nat → ClassId} {dI : Nat → Nat → Nat} {adC adM : Nat → Nat} {ca : Nat → ClassId} {lw : Nat → Option Nat} {tl tt : Option Nat} {M N : Mem} (tC : St adC (fun q : Nat => s.heap.size ≤ q) s s.heap) (tM : St adM (fun q : Nat => s.heap.size ≤ q) s s.heap) {tm : Nat} (ht : tm ≤ 3100) (hRel : Rel tm lw M N) {x3 : Int32} (i1 : vp_in (x3 + 1) L) (i2 : vp_in (x3 + 2) L) (i3 : vp_in (x3 + 3) L) (i4 : vp_in (x3 + 4) L) (i5 : vp_in (x3 + 5) L) {ls : Array Slot} (hl : lv_has ls 4 [(0, .ref b), (1, .ref (adC 0)), (2, .ref (adM 0)), (3, .int x3)])
    (hnext : ∀ (lw' : Nat → Option Nat) (tl' tt' : Option Nat) (M' N' : Mem), Rel (tm + 1) lw' M' N' → ∀ (H : Heap) (locs : List Loc), W2 dC dI adC adM ca (fun q : Nat => s.heap.size ≤ q) lw' tl' tt' M' N' s H → va_S (fun q : Nat => s.heap.size ≤ q) s.heap H locs → W p l e room_1 s m #[Value.ref b] below meth c H locs 80 2300 (lw_Z below #[Value.ref b] s) (F0 m 1556 ls [])) (H : Heap) (locs : List Loc) (w : W2 dC dI adC adM ca (fun q : Nat => s.heap.size ≤ q) lw tl tt M N s H) (hS : va_S (fun q : Nat => s.heap.size ≤ q) s.heap H locs) : W p l e room_1 s m #[Value.ref b] below meth c H locs 80 2300 (lw_Z below #[Value.ref b] s) (F0 m 601 ls []) := by
  obtain ⟨hx, hb, hr, hml, hown, hts0, hX, hbl, hlocks, hgv⟩ := id C0
  have hbA : ¬ (fun q : Nat => s.heap.size ≤ q) b := Nat.not_le.mpr hbl
  obtain ⟨r, hF, hG, hR⟩ := op_law tl tt ht hRel (xs (x3 + 1).toNatClampNeg)
  refine lv_aload_n hx hb dL_law_601 rfl (lv_at hl 1 rfl) ?_
  refine lv_aload_n hx hb dL_law_602 rfl (lv_at hl 0 rfl) ?_
  refine lv_iload_n hx hb dL_law_603 rfl (lv_at hl 3 rfl) ?_
  refine lv_iconst hx hb dL_law_604 ic_1 ?_
  refine lv_iadd hx hb dL_law_605 ?_
  refine va_sld hx hb hX hbl hbA hS i1 dL_law_606 ?_
  refine law_Ci C0 (lw' := lw) (tl' := tl) (tt' := tt) (M' := M) tC hl.1 (as := [vI (xs (x3 + 1).toNatClampNeg)]) w hS dL_law_607 cw_X8_law ml_L_61 mi_X8_law se_X8_law (Nat.zero_le _) (Nat.le_of_ble_eq_true rfl) (m_X8_law tl tt lw M (xs (x3 + 1).toNatClampNeg) r hF) rfl ?_
  intro H locs w hS
  refine lv_aload_n hx hb dL_law_610 rfl (lv_at hl 2 rfl) ?_
  refine lv_aload_n hx hb dL_law_611 rfl (lv_at hl 0 rfl) ?_
  refine lv_iload_n hx hb dL_law_612 rfl (lv_at hl 3 rfl) ?_
  refine lv_iconst hx hb dL_law_613 ic_1 ?_
  refine lv_iadd hx hb dL_law_614 ?_
  refine va_sld hx hb hX hbl hbA hS i1 dL_law_615 ?_
  refine law_Mi C0 (N' := N) tM hl.1 (as := [vI (xs (x3 + 1).toNatClampNeg)]) w hS dL_law_616 cw_X9_law ml_L_64 mi_X9_law se_X9_law (Nat.le_of_ble_eq_true rfl) (Nat.le_of_ble_eq_true rfl) (m_X9_law  N (xs (x3 + 1).toNatClampNeg) r hG) rfl ?_
  intro H locs w hS
  refine lv_icmp_eq (tgt := 1556) hx hb dL_law_619 (by decide) (fun _ => ?_) (fun hc => absurd rfl hc)
  exact hnext lw tl tt M N hR H locs w hS
set_option maxRecDepth 100000 in
set_option maxHeartbeats 4000000 in
theorem law_case_12 {p : Program} {l : Launch} {e : Env} {s : State} {m : MethodId} {below : List Frame} {meth : Method} {c : Code} {b L : Nat} {xs : Nat → Int32} (C0 : lw_At p s m meth c b L xs) {dC : Nat → ClassId} {dI : Nat → Nat → Nat} {adC adM : Nat → Nat} {ca : Nat → ClassId} {lw : Nat → Option Nat} {tl tt : Option Nat} {M N : Mem} (tC : St adC (fun q : Nat => s.heap.size ≤ q) s s.heap) (tM : St adM (fun q : Nat => s.heap.size ≤ q) s s.heap) {tm : Nat} (ht : tm ≤ 3100) (hRel : Rel tm lw M N) {x3 : Int32} (i1 : vp_in (x3 + 1) L) (i2 : vp_in (x3 + 2) L) (i3 : vp_in (x3 + 3) L) (i4 : vp_in (x3 + 4) L) (i5 : vp_in (x3 + 5) L) {ls : Array Slot} (hl : lv_has ls 4 [(0, .ref b), (1, .ref (adC 0)), (2, .ref (adM 0)), (3, .int x3)])
    (hnext : ∀ (lw' : Nat → Option Nat) (tl' tt' : Option Nat) (M' N' : Mem), Rel (tm + 1) lw' M' N' → ∀ (H : Heap) (locs : List Loc), W2 dC dI adC adM ca (fun q : Nat => s.heap.size ≤ q) lw' tl' tt' M' N' s H → va_S (fun q : Nat => s.heap.size ≤ q) s.heap H locs → W p l e room_1 s m #[Value.ref b] below meth c H locs 80 2300 (lw_Z below #[Value.ref b] s) (F0 m 1556 ls [])) (H : Heap) (locs : List Loc) (w : W2 dC dI adC adM ca (fun q : Nat => s.heap.size ≤ q) lw tl tt M N s H) (hS : va_S (fun q : Nat => s.heap.size ≤ q) s.heap H locs) : W p l e room_1 s m #[Value.ref b] below meth c H locs 80 2300 (lw_Z below #[Value.ref b] s) (F0 m 624 ls []) := by
  obtain ⟨hx, hb, hr, hml, hown, hts0, hX, hbl, hlocks, hgv⟩ := id C0
  have hbA : ¬ (fun q : Nat => s.heap.size ≤ q) b := Nat.not_le.mpr hbl
  obtain ⟨r, M', N', hF, hG, hR⟩ := op_mark tl tt ht hRel (xs (x3 + 1).toNatClampNeg) (xs (x3 + 2).toNatClampNeg)
  refine lv_aload_n hx hb dL_law_624 rfl (lv_at hl 1 rfl) ?_
  refine lv_aload_n hx hb dL_law_625 rfl (lv_at hl 0 rfl) ?_
  refine lv_iload_n hx hb dL_law_626 rfl (lv_at hl 3 rfl) ?_
  refine lv_iconst hx hb dL_law_627 ic_1 ?_
  refine lv_iadd hx hb dL_law_628 ?_
  refine va_sld hx hb hX hbl hbA hS i1 dL_law_629 ?_
  refine lv_aload_n hx hb dL_law_630 rfl (lv_at hl 0 rfl) ?_
  refine lv_iload_n hx hb dL_law_631 rfl (lv_at hl 3 rfl) ?_
  refine lv_iconst hx hb dL_law_632 ic_2 ?_
  refine lv_iadd hx hb dL_law_633 ?_
  refine va_sld hx hb hX hbl hbA hS i2 dL_law_634 ?_
  refine law_Ci C0 (lw' := lw) (tl' := tl) (tt' := tt) (M' := M') tC hl.1 (as := [vI (xs (x3 + 1).toNatClampNeg), vI (xs (x3 + 2).toNatClampNeg)]) w hS dL_law_635 cw_X8_mark ml_L_65 mi_X8_mark se_X8_mark (Nat.zero_le _) (Nat.le_of_ble_eq_true rfl) (m_X8_mark tl tt lw M (xs (x3 + 1).toNatClampNeg) (xs (x3 + 2).toNatClampNeg) r M' hF) rfl ?_
  intro H locs w hS
  refine lv_aload_n hx hb dL_law_638 rfl (lv_at hl 2 rfl) ?_
  refine lv_aload_n hx hb dL_law_639 rfl (lv_at hl 0 rfl) ?_
  refine lv_iload_n hx hb dL_law_640 rfl (lv_at hl 3 rfl) ?_
  refine lv_iconst hx hb dL_law_641 ic_1 ?_
  refine lv_iadd hx hb dL_law_642 ?_
  refine va_sld hx hb hX hbl hbA hS i1 dL_law_643 ?_
  refine lv_aload_n hx hb dL_law_644 rfl (lv_at hl 0 rfl) ?_
  refine lv_iload_n hx hb dL_law_645 rfl (lv_at hl 3 rfl) ?_
  refine lv_iconst hx hb dL_law_646 ic_2 ?_
  refine lv_iadd hx hb dL_law_647 ?_
  refine va_sld hx hb hX hbl hbA hS i2 dL_law_648 ?_
  refine law_Mi C0 (N' := N') tM hl.1 (as := [vI (xs (x3 + 1).toNatClampNeg), vI (xs (x3 + 2).toNatClampNeg)]) w hS dL_law_649 cw_X9_mark ml_L_68 mi_X9_mark se_X9_mark (Nat.le_of_ble_eq_true rfl) (Nat.le_of_ble_eq_true rfl) (m_X9_mark  N (xs (x3 + 1).toNatClampNeg) (xs (x3 + 2).toNatClampNeg) r N' hG) rfl ?_
  intro H locs w hS
  refine lv_icmp_eq (tgt := 1556) hx hb dL_law_652 (by decide) (fun _ => ?_) (fun hc => absurd rfl hc)
  exact hnext lw tl tt M' N' hR H locs w hS
set_option maxRecDepth 100000 in
set_option maxHeartbeats 4000000 in
theorem law_case_13 {p : Program} {l : Launch} {e : Env} {s : State} {m : MethodId} {below : List Frame} {meth : Method} {c : Code} {b L : Nat} {xs : Nat → Int32} (C0 : lw_At p s m meth c b L xs) {dC : Nat → ClassId} {dI : Nat → Nat → Nat} {adC adM : Nat → Nat} {ca : Nat → ClassId} {lw : Nat → Option Nat} {tl tt : Option Nat} {M N : Mem} (tC : St adC (fun q : Nat => s.heap.size ≤ q) s s.heap) (tM : St adM (fun q : Nat => s.heap.size ≤ q) s s.heap) {tm : Nat} (ht : tm ≤ 3100) (hRel : Rel tm lw M N) {x3 : Int32} (i1 : vp_in (x3 + 1) L) (i2 : vp_in (x3 + 2) L) (i3 : vp_in (x3 + 3) L) (i4 : vp_in (x3 + 4) L) (i5 : vp_in (x3 + 5) L) {ls : Array Slot} (hl : lv_has ls 4 [(0, .ref b), (1, .ref (adC 0)), (2, .ref (adM 0)), (3, .int x3)])
    (hnext : ∀ (lw' : Nat → Option Nat) (tl' tt' : Option Nat) (M' N' : Mem), Rel (tm + 1) lw' M' N' → ∀ (H : Heap) (locs : List Loc), W2 dC dI adC adM ca (fun q : Nat => s.heap.size ≤ q) lw' tl' tt' M' N' s H → va_S (fun q : Nat => s.heap.size ≤ q) s.heap H locs → W p l e room_1 s m #[Value.ref b] below meth c H locs 80 2300 (lw_Z below #[Value.ref b] s) (F0 m 1556 ls [])) (H : Heap) (locs : List Loc) (w : W2 dC dI adC adM ca (fun q : Nat => s.heap.size ≤ q) lw tl tt M N s H) (hS : va_S (fun q : Nat => s.heap.size ≤ q) s.heap H locs) : W p l e room_1 s m #[Value.ref b] below meth c H locs 80 2300 (lw_Z below #[Value.ref b] s) (F0 m 657 ls []) := by
  obtain ⟨hx, hb, hr, hml, hown, hts0, hX, hbl, hlocks, hgv⟩ := id C0
  have hbA : ¬ (fun q : Nat => s.heap.size ≤ q) b := Nat.not_le.mpr hbl
  obtain ⟨r, M', N', hF, hG, hR⟩ := op_hole tl tt ht hRel (xs (x3 + 1).toNatClampNeg) (xs (x3 + 2).toNatClampNeg)
  refine lv_aload_n hx hb dL_law_657 rfl (lv_at hl 1 rfl) ?_
  refine lv_aload_n hx hb dL_law_658 rfl (lv_at hl 0 rfl) ?_
  refine lv_iload_n hx hb dL_law_659 rfl (lv_at hl 3 rfl) ?_
  refine lv_iconst hx hb dL_law_660 ic_1 ?_
  refine lv_iadd hx hb dL_law_661 ?_
  refine va_sld hx hb hX hbl hbA hS i1 dL_law_662 ?_
  refine lv_aload_n hx hb dL_law_663 rfl (lv_at hl 0 rfl) ?_
  refine lv_iload_n hx hb dL_law_664 rfl (lv_at hl 3 rfl) ?_
  refine lv_iconst hx hb dL_law_665 ic_2 ?_
  refine lv_iadd hx hb dL_law_666 ?_
  refine va_sld hx hb hX hbl hbA hS i2 dL_law_667 ?_
  refine law_Ci C0 (lw' := lw) (tl' := tl) (tt' := tt) (M' := M') tC hl.1 (as := [vI (xs (x3 + 1).toNatClampNeg), vI (xs (x3 + 2).toNatClampNeg)]) w hS dL_law_668 cw_X8_hole ml_L_69 mi_X8_hole se_X8_hole (Nat.zero_le _) (Nat.le_of_ble_eq_true rfl) (m_X8_hole lw tl tt M (xs (x3 + 1).toNatClampNeg) (xs (x3 + 2).toNatClampNeg) r M' hF) rfl ?_
  intro H locs w hS
  refine lv_aload_n hx hb dL_law_671 rfl (lv_at hl 2 rfl) ?_
  refine lv_aload_n hx hb dL_law_672 rfl (lv_at hl 0 rfl) ?_
  refine lv_iload_n hx hb dL_law_673 rfl (lv_at hl 3 rfl) ?_
  refine lv_iconst hx hb dL_law_674 ic_1 ?_
  refine lv_iadd hx hb dL_law_675 ?_
  refine va_sld hx hb hX hbl hbA hS i1 dL_law_676 ?_
  refine lv_aload_n hx hb dL_law_677 rfl (lv_at hl 0 rfl) ?_
  refine lv_iload_n hx hb dL_law_678 rfl (lv_at hl 3 rfl) ?_
  refine lv_iconst hx hb dL_law_679 ic_2 ?_
  refine lv_iadd hx hb dL_law_680 ?_
  refine va_sld hx hb hX hbl hbA hS i2 dL_law_681 ?_
  refine law_Mi C0 (N' := N') tM hl.1 (as := [vI (xs (x3 + 1).toNatClampNeg), vI (xs (x3 + 2).toNatClampNeg)]) w hS dL_law_682 cw_X9_hole ml_L_72 mi_X9_hole se_X9_hole (Nat.le_of_ble_eq_true rfl) (Nat.le_of_ble_eq_true rfl) (m_X9_hole  N (xs (x3 + 1).toNatClampNeg) (xs (x3 + 2).toNatClampNeg) r N' hG) rfl ?_
  intro H locs w hS
  refine lv_icmp_eq (tgt := 1556) hx hb dL_law_685 (by decide) (fun _ => ?_) (fun hc => absurd rfl hc)
  exact hnext lw tl tt M' N' hR H locs w hS
set_option maxRecDepth 100000 in
set_option maxHeartbeats 4000000 in
theorem law_case_14 {p : Program} {l : Launch} {e : Env} {s : State} {m : MethodId} {below : List Frame} {meth : Method} {c : Code} {b L : Nat} {xs : Nat → Int32} (C0 : lw_At p s m meth c b L xs) {dC : Nat → ClassId} {dI : Nat → Nat → Nat} {adC adM : Nat → Nat} {ca : Nat → ClassId} {lw : Nat → Option Nat} {tl tt : Option Nat} {M N : Mem} (tC : St adC (fun q : Nat => s.heap.size ≤ q) s s.heap) (tM : St adM (fun q : Nat => s.heap.size ≤ q) s s.heap) {tm : Nat} (ht : tm ≤ 3100) (hRel : Rel tm lw M N) {x3 : Int32} (i1 : vp_in (x3 + 1) L) (i2 : vp_in (x3 + 2) L) (i3 : vp_in (x3 + 3) L) (i4 : vp_in (x3 + 4) L) (i5 : vp_in (x3 + 5) L) {ls : Array Slot} (hl : lv_has ls 4 [(0, .ref b), (1, .ref (adC 0)), (2, .ref (adM 0)), (3, .int x3)])
    (hnext : ∀ (lw' : Nat → Option Nat) (tl' tt' : Option Nat) (M' N' : Mem), Rel (tm + 1) lw' M' N' → ∀ (H : Heap) (locs : List Loc), W2 dC dI adC adM ca (fun q : Nat => s.heap.size ≤ q) lw' tl' tt' M' N' s H → va_S (fun q : Nat => s.heap.size ≤ q) s.heap H locs → W p l e room_1 s m #[Value.ref b] below meth c H locs 80 2300 (lw_Z below #[Value.ref b] s) (F0 m 1556 ls [])) (H : Heap) (locs : List Loc) (w : W2 dC dI adC adM ca (fun q : Nat => s.heap.size ≤ q) lw tl tt M N s H) (hS : va_S (fun q : Nat => s.heap.size ≤ q) s.heap H locs) : W p l e room_1 s m #[Value.ref b] below meth c H locs 80 2300 (lw_Z below #[Value.ref b] s) (F0 m 690 ls []) := by
  obtain ⟨hx, hb, hr, hml, hown, hts0, hX, hbl, hlocks, hgv⟩ := id C0
  have hbA : ¬ (fun q : Nat => s.heap.size ≤ q) b := Nat.not_le.mpr hbl
  obtain ⟨r, M', N', hF, hG, hR⟩ := op_dig tl tt ht hRel (xs (x3 + 1).toNatClampNeg)
  refine lv_aload_n hx hb dL_law_690 rfl (lv_at hl 1 rfl) ?_
  refine lv_aload_n hx hb dL_law_691 rfl (lv_at hl 0 rfl) ?_
  refine lv_iload_n hx hb dL_law_692 rfl (lv_at hl 3 rfl) ?_
  refine lv_iconst hx hb dL_law_693 ic_1 ?_
  refine lv_iadd hx hb dL_law_694 ?_
  refine va_sld hx hb hX hbl hbA hS i1 dL_law_695 ?_
  refine law_Ci C0 (lw' := lw) (tl' := tl) (tt' := tt) (M' := M') tC hl.1 (as := [vI (xs (x3 + 1).toNatClampNeg)]) w hS dL_law_696 cw_X8_dig ml_L_73 mi_X8_dig se_X8_dig (Nat.zero_le _) (Nat.le_of_ble_eq_true rfl) (m_X8_dig lw tl tt M (xs (x3 + 1).toNatClampNeg) r M' hF) rfl ?_
  intro H locs w hS
  refine lv_aload_n hx hb dL_law_699 rfl (lv_at hl 2 rfl) ?_
  refine lv_aload_n hx hb dL_law_700 rfl (lv_at hl 0 rfl) ?_
  refine lv_iload_n hx hb dL_law_701 rfl (lv_at hl 3 rfl) ?_
  refine lv_iconst hx hb dL_law_702 ic_1 ?_
  refine lv_iadd hx hb dL_law_703 ?_
  refine va_sld hx hb hX hbl hbA hS i1 dL_law_704 ?_
  refine law_Mi C0 (N' := N') tM hl.1 (as := [vI (xs (x3 + 1).toNatClampNeg)]) w hS dL_law_705 cw_X9_dig ml_L_76 mi_X9_dig se_X9_dig (Nat.le_of_ble_eq_true rfl) (Nat.le_of_ble_eq_true rfl) (m_X9_dig  N (xs (x3 + 1).toNatClampNeg) r N' hG) rfl ?_
  intro H locs w hS
  refine lv_icmp_eq (tgt := 1556) hx hb dL_law_708 (by decide) (fun _ => ?_) (fun hc => absurd rfl hc)
  exact hnext lw tl tt M' N' hR H locs w hS
set_option maxRecDepth 100000 in
set_option maxHeartbeats 4000000 in
theorem law_case_15 {p : Program} {l : Launch} {e : Env} {s : State} {m : MethodId} {below : List Frame} {meth : Method} {c : Code} {b L : Nat} {xs : Nat → Int32} (C0 : lw_At p s m meth c b L xs) {dC : Nat → ClassId} {dI : Nat → Nat → Nat} {adC adM : Nat → Nat} {ca : Nat → ClassId} {lw : Nat → Option Nat} {tl tt : Option Nat} {M N : Mem} (tC : St adC (fun q : Nat => s.heap.size ≤ q) s s.heap) (tM : St adM (fun q : Nat => s.heap.size ≤ q) s s.heap) {tm : Nat} (ht : tm ≤ 3100) (hRel : Rel tm lw M N) {x3 : Int32} (i1 : vp_in (x3 + 1) L) (i2 : vp_in (x3 + 2) L) (i3 : vp_in (x3 + 3) L) (i4 : vp_in (x3 + 4) L) (i5 : vp_in (x3 + 5) L) {ls : Array Slot} (hl : lv_has ls 4 [(0, .ref b), (1, .ref (adC 0)), (2, .ref (adM 0)), (3, .int x3)])
    (hnext : ∀ (lw' : Nat → Option Nat) (tl' tt' : Option Nat) (M' N' : Mem), Rel (tm + 1) lw' M' N' → ∀ (H : Heap) (locs : List Loc), W2 dC dI adC adM ca (fun q : Nat => s.heap.size ≤ q) lw' tl' tt' M' N' s H → va_S (fun q : Nat => s.heap.size ≤ q) s.heap H locs → W p l e room_1 s m #[Value.ref b] below meth c H locs 80 2300 (lw_Z below #[Value.ref b] s) (F0 m 1556 ls [])) (H : Heap) (locs : List Loc) (w : W2 dC dI adC adM ca (fun q : Nat => s.heap.size ≤ q) lw tl tt M N s H) (hS : va_S (fun q : Nat => s.heap.size ≤ q) s.heap H locs) : W p l e room_1 s m #[Value.ref b] below meth c H locs 80 2300 (lw_Z below #[Value.ref b] s) (F0 m 713 ls []) := by
  obtain ⟨hx, hb, hr, hml, hown, hts0, hX, hbl, hlocks, hgv⟩ := id C0
  have hbA : ¬ (fun q : Nat => s.heap.size ≤ q) b := Nat.not_le.mpr hbl
  obtain ⟨r, M', N', hF, hG, hR⟩ := op_fill tl tt ht hRel (xs (x3 + 1).toNatClampNeg)
  refine lv_aload_n hx hb dL_law_713 rfl (lv_at hl 1 rfl) ?_
  refine lv_aload_n hx hb dL_law_714 rfl (lv_at hl 0 rfl) ?_
  refine lv_iload_n hx hb dL_law_715 rfl (lv_at hl 3 rfl) ?_
  refine lv_iconst hx hb dL_law_716 ic_1 ?_
  refine lv_iadd hx hb dL_law_717 ?_
  refine va_sld hx hb hX hbl hbA hS i1 dL_law_718 ?_
  refine law_Ci C0 (lw' := lw) (tl' := tl) (tt' := tt) (M' := M') tC hl.1 (as := [vI (xs (x3 + 1).toNatClampNeg)]) w hS dL_law_719 cw_X8_fill ml_L_77 mi_X8_fill se_X8_fill (Nat.zero_le _) (Nat.le_of_ble_eq_true rfl) (m_X8_fill lw tl tt M (xs (x3 + 1).toNatClampNeg) r M' hF) rfl ?_
  intro H locs w hS
  refine lv_aload_n hx hb dL_law_722 rfl (lv_at hl 2 rfl) ?_
  refine lv_aload_n hx hb dL_law_723 rfl (lv_at hl 0 rfl) ?_
  refine lv_iload_n hx hb dL_law_724 rfl (lv_at hl 3 rfl) ?_
  refine lv_iconst hx hb dL_law_725 ic_1 ?_
  refine lv_iadd hx hb dL_law_726 ?_
  refine va_sld hx hb hX hbl hbA hS i1 dL_law_727 ?_
  refine law_Mi C0 (N' := N') tM hl.1 (as := [vI (xs (x3 + 1).toNatClampNeg)]) w hS dL_law_728 cw_X9_fill ml_L_80 mi_X9_fill se_X9_fill (Nat.le_of_ble_eq_true rfl) (Nat.le_of_ble_eq_true rfl) (m_X9_fill  N (xs (x3 + 1).toNatClampNeg) r N' hG) rfl ?_
  intro H locs w hS
  refine lv_icmp_eq (tgt := 1556) hx hb dL_law_731 (by decide) (fun _ => ?_) (fun hc => absurd rfl hc)
  exact hnext lw tl tt M' N' hR H locs w hS
set_option maxRecDepth 100000 in
set_option maxHeartbeats 4000000 in
theorem law_case_16 {p : Program} {l : Launch} {e : Env} {s : State} {m : MethodId} {below : List Frame} {meth : Method} {c : Code} {b L : Nat} {xs : Nat → Int32} (C0 : lw_At p s m meth c b L xs) {dC : Nat → ClassId} {dI : Nat → Nat → Nat} {adC adM : Nat → Nat} {ca : Nat → ClassId} {lw : Nat → Option Nat} {tl tt : Option Nat} {M N : Mem} (tC : St adC (fun q : Nat => s.heap.size ≤ q) s s.heap) (tM : St adM (fun q : Nat => s.heap.size ≤ q) s s.heap) {tm : Nat} (ht : tm ≤ 3100) (hRel : Rel tm lw M N) {x3 : Int32} (i1 : vp_in (x3 + 1) L) (i2 : vp_in (x3 + 2) L) (i3 : vp_in (x3 + 3) L) (i4 : vp_in (x3 + 4) L) (i5 : vp_in (x3 + 5) L) {ls : Array Slot} (hl : lv_has ls 4 [(0, .ref b), (1, .ref (adC 0)), (2, .ref (adM 0)), (3, .int x3)])
    (hnext : ∀ (lw' : Nat → Option Nat) (tl' tt' : Option Nat) (M' N' : Mem), Rel (tm + 1) lw' M' N' → ∀ (H : Heap) (locs : List Loc), W2 dC dI adC adM ca (fun q : Nat => s.heap.size ≤ q) lw' tl' tt' M' N' s H → va_S (fun q : Nat => s.heap.size ≤ q) s.heap H locs → W p l e room_1 s m #[Value.ref b] below meth c H locs 80 2300 (lw_Z below #[Value.ref b] s) (F0 m 1556 ls [])) (H : Heap) (locs : List Loc) (w : W2 dC dI adC adM ca (fun q : Nat => s.heap.size ≤ q) lw tl tt M N s H) (hS : va_S (fun q : Nat => s.heap.size ≤ q) s.heap H locs) : W p l e room_1 s m #[Value.ref b] below meth c H locs 80 2300 (lw_Z below #[Value.ref b] s) (F0 m 736 ls []) := by
  obtain ⟨hx, hb, hr, hml, hown, hts0, hX, hbl, hlocks, hgv⟩ := id C0
  have hbA : ¬ (fun q : Nat => s.heap.size ≤ q) b := Nat.not_le.mpr hbl
  obtain ⟨r, M', N', hF, hG, hR⟩ := op_rain tl tt ht hRel (xs (x3 + 1).toNatClampNeg) (xs (x3 + 2).toNatClampNeg)
  refine lv_aload_n hx hb dL_law_736 rfl (lv_at hl 1 rfl) ?_
  refine lv_aload_n hx hb dL_law_737 rfl (lv_at hl 0 rfl) ?_
  refine lv_iload_n hx hb dL_law_738 rfl (lv_at hl 3 rfl) ?_
  refine lv_iconst hx hb dL_law_739 ic_1 ?_
  refine lv_iadd hx hb dL_law_740 ?_
  refine va_sld hx hb hX hbl hbA hS i1 dL_law_741 ?_
  refine lv_aload_n hx hb dL_law_742 rfl (lv_at hl 0 rfl) ?_
  refine lv_iload_n hx hb dL_law_743 rfl (lv_at hl 3 rfl) ?_
  refine lv_iconst hx hb dL_law_744 ic_2 ?_
  refine lv_iadd hx hb dL_law_745 ?_
  refine va_sld hx hb hX hbl hbA hS i2 dL_law_746 ?_
  refine law_Ci C0 (lw' := lw) (tl' := tl) (tt' := tt) (M' := M') tC hl.1 (as := [vI (xs (x3 + 1).toNatClampNeg), vI (xs (x3 + 2).toNatClampNeg)]) w hS dL_law_747 cw_X8_rain ml_L_81 mi_X8_rain se_X8_rain (Nat.zero_le _) (Nat.le_of_ble_eq_true rfl) (m_X8_rain lw tl tt M (xs (x3 + 1).toNatClampNeg) (xs (x3 + 2).toNatClampNeg) r M' hF) rfl ?_
  intro H locs w hS
  refine lv_aload_n hx hb dL_law_750 rfl (lv_at hl 2 rfl) ?_
  refine lv_aload_n hx hb dL_law_751 rfl (lv_at hl 0 rfl) ?_
  refine lv_iload_n hx hb dL_law_752 rfl (lv_at hl 3 rfl) ?_
  refine lv_iconst hx hb dL_law_753 ic_1 ?_
  refine lv_iadd hx hb dL_law_754 ?_
  refine va_sld hx hb hX hbl hbA hS i1 dL_law_755 ?_
  refine lv_aload_n hx hb dL_law_756 rfl (lv_at hl 0 rfl) ?_
  refine lv_iload_n hx hb dL_law_757 rfl (lv_at hl 3 rfl) ?_
  refine lv_iconst hx hb dL_law_758 ic_2 ?_
  refine lv_iadd hx hb dL_law_759 ?_
  refine va_sld hx hb hX hbl hbA hS i2 dL_law_760 ?_
  refine law_Mi C0 (N' := N') tM hl.1 (as := [vI (xs (x3 + 1).toNatClampNeg), vI (xs (x3 + 2).toNatClampNeg)]) w hS dL_law_761 cw_X9_rain ml_L_84 mi_X9_rain se_X9_rain (Nat.le_of_ble_eq_true rfl) (Nat.le_of_ble_eq_true rfl) (m_X9_rain  N (xs (x3 + 1).toNatClampNeg) (xs (x3 + 2).toNatClampNeg) r N' hG) rfl ?_
  intro H locs w hS
  refine lv_icmp_eq (tgt := 1556) hx hb dL_law_764 (by decide) (fun _ => ?_) (fun hc => absurd rfl hc)
  exact hnext lw tl tt M' N' hR H locs w hS
set_option maxRecDepth 100000 in
set_option maxHeartbeats 4000000 in
theorem law_case_17 {p : Program} {l : Launch} {e : Env} {s : State} {m : MethodId} {below : List Frame} {meth : Method} {c : Code} {b L : Nat} {xs : Nat → Int32} (C0 : lw_At p s m meth c b L xs) {dC : Nat → ClassId} {dI : Nat → Nat → Nat} {adC adM : Nat → Nat} {ca : Nat → ClassId} {lw : Nat → Option Nat} {tl tt : Option Nat} {M N : Mem} (tC : St adC (fun q : Nat => s.heap.size ≤ q) s s.heap) (tM : St adM (fun q : Nat => s.heap.size ≤ q) s s.heap) {tm : Nat} (ht : tm ≤ 3100) (hRel : Rel tm lw M N) {x3 : Int32} (i1 : vp_in (x3 + 1) L) (i2 : vp_in (x3 + 2) L) (i3 : vp_in (x3 + 3) L) (i4 : vp_in (x3 + 4) L) (i5 : vp_in (x3 + 5) L) {ls : Array Slot} (hl : lv_has ls 4 [(0, .ref b), (1, .ref (adC 0)), (2, .ref (adM 0)), (3, .int x3)])
    (hnext : ∀ (lw' : Nat → Option Nat) (tl' tt' : Option Nat) (M' N' : Mem), Rel (tm + 1) lw' M' N' → ∀ (H : Heap) (locs : List Loc), W2 dC dI adC adM ca (fun q : Nat => s.heap.size ≤ q) lw' tl' tt' M' N' s H → va_S (fun q : Nat => s.heap.size ≤ q) s.heap H locs → W p l e room_1 s m #[Value.ref b] below meth c H locs 80 2300 (lw_Z below #[Value.ref b] s) (F0 m 1556 ls [])) (H : Heap) (locs : List Loc) (w : W2 dC dI adC adM ca (fun q : Nat => s.heap.size ≤ q) lw tl tt M N s H) (hS : va_S (fun q : Nat => s.heap.size ≤ q) s.heap H locs) : W p l e room_1 s m #[Value.ref b] below meth c H locs 80 2300 (lw_Z below #[Value.ref b] s) (F0 m 769 ls []) := by
  obtain ⟨hx, hb, hr, hml, hown, hts0, hX, hbl, hlocks, hgv⟩ := id C0
  have hbA : ¬ (fun q : Nat => s.heap.size ≤ q) b := Nat.not_le.mpr hbl
  obtain ⟨r, M', N', hF, hG, hR⟩ := op_undo tl tt ht hRel (xs (x3 + 1).toNatClampNeg)
  refine lv_aload_n hx hb dL_law_769 rfl (lv_at hl 1 rfl) ?_
  refine lv_aload_n hx hb dL_law_770 rfl (lv_at hl 0 rfl) ?_
  refine lv_iload_n hx hb dL_law_771 rfl (lv_at hl 3 rfl) ?_
  refine lv_iconst hx hb dL_law_772 ic_1 ?_
  refine lv_iadd hx hb dL_law_773 ?_
  refine va_sld hx hb hX hbl hbA hS i1 dL_law_774 ?_
  refine law_Ci C0 (lw' := lw) (tl' := tl) (tt' := tt) (M' := M') tC hl.1 (as := [vI (xs (x3 + 1).toNatClampNeg)]) w hS dL_law_775 cw_X8_undo ml_L_85 mi_X8_undo se_X8_undo (Nat.zero_le _) (Nat.le_of_ble_eq_true rfl) (m_X8_undo lw tl tt M (xs (x3 + 1).toNatClampNeg) r M' hF) rfl ?_
  intro H locs w hS
  refine lv_aload_n hx hb dL_law_778 rfl (lv_at hl 2 rfl) ?_
  refine lv_aload_n hx hb dL_law_779 rfl (lv_at hl 0 rfl) ?_
  refine lv_iload_n hx hb dL_law_780 rfl (lv_at hl 3 rfl) ?_
  refine lv_iconst hx hb dL_law_781 ic_1 ?_
  refine lv_iadd hx hb dL_law_782 ?_
  refine va_sld hx hb hX hbl hbA hS i1 dL_law_783 ?_
  refine law_Mi C0 (N' := N') tM hl.1 (as := [vI (xs (x3 + 1).toNatClampNeg)]) w hS dL_law_784 cw_X9_undo ml_L_88 mi_X9_undo se_X9_undo (Nat.le_of_ble_eq_true rfl) (Nat.le_of_ble_eq_true rfl) (m_X9_undo  N (xs (x3 + 1).toNatClampNeg) r N' hG) rfl ?_
  intro H locs w hS
  refine lv_icmp_eq (tgt := 1556) hx hb dL_law_787 (by decide) (fun _ => ?_) (fun hc => absurd rfl hc)
  exact hnext lw tl tt M' N' hR H locs w hS
set_option maxRecDepth 100000 in
set_option maxHeartbeats 4000000 in
theorem law_case_18 {p : Program} {l : Launch} {e : Env} {s : State} {m : MethodId} {below : List Frame} {meth : Method} {c : Code} {b L : Nat} {xs : Nat → Int32} (C0 : lw_At p s m meth c b L xs) {dC : Nat → ClassId} {dI : Nat → Nat → Nat} {adC adM : Nat → Nat} {ca : Nat → ClassId} {lw : Nat → Option Nat} {tl tt : Option Nat} {M N : Mem} (tC : St adC (fun q : Nat => s.heap.size ≤ q) s s.heap) (tM : St adM (fun q : Nat => s.heap.size ≤ q) s s.heap) {tm : Nat} (ht : tm ≤ 3100) (hRel : Rel tm lw M N) {x3 : Int32} (i1 : vp_in (x3 + 1) L) (i2 : vp_in (x3 + 2) L) (i3 : vp_in (x3 + 3) L) (i4 : vp_in (x3 + 4) L) (i5 : vp_in (x3 + 5) L) {ls : Array Slot} (hl : lv_has ls 4 [(0, .ref b), (1, .ref (adC 0)), (2, .ref (adM 0)), (3, .int x3)])
    (hnext : ∀ (lw' : Nat → Option Nat) (tl' tt' : Option Nat) (M' N' : Mem), Rel (tm + 1) lw' M' N' → ∀ (H : Heap) (locs : List Loc), W2 dC dI adC adM ca (fun q : Nat => s.heap.size ≤ q) lw' tl' tt' M' N' s H → va_S (fun q : Nat => s.heap.size ≤ q) s.heap H locs → W p l e room_1 s m #[Value.ref b] below meth c H locs 80 2300 (lw_Z below #[Value.ref b] s) (F0 m 1556 ls [])) (H : Heap) (locs : List Loc) (w : W2 dC dI adC adM ca (fun q : Nat => s.heap.size ≤ q) lw tl tt M N s H) (hS : va_S (fun q : Nat => s.heap.size ≤ q) s.heap H locs) : W p l e room_1 s m #[Value.ref b] below meth c H locs 80 2300 (lw_Z below #[Value.ref b] s) (F0 m 792 ls []) := by
  obtain ⟨hx, hb, hr, hml, hown, hts0, hX, hbl, hlocks, hgv⟩ := id C0
  have hbA : ¬ (fun q : Nat => s.heap.size ≤ q) b := Nat.not_le.mpr hbl
  obtain ⟨r, M', N', hF, hG, hR⟩ := op_image tl tt ht hRel (xs (x3 + 1).toNatClampNeg)
  refine lv_aload_n hx hb dL_law_792 rfl (lv_at hl 1 rfl) ?_
  refine lv_aload_n hx hb dL_law_793 rfl (lv_at hl 0 rfl) ?_
  refine lv_iload_n hx hb dL_law_794 rfl (lv_at hl 3 rfl) ?_
  refine lv_iconst hx hb dL_law_795 ic_1 ?_
  refine lv_iadd hx hb dL_law_796 ?_
  refine va_sld hx hb hX hbl hbA hS i1 dL_law_797 ?_
  refine law_Ci C0 (lw' := lw) (tl' := tl) (tt' := tt) (M' := M') tC hl.1 (as := [vI (xs (x3 + 1).toNatClampNeg)]) w hS dL_law_798 cw_X8_image ml_L_89 mi_X8_image se_X8_image (Nat.zero_le _) (Nat.le_of_ble_eq_true rfl) (m_X8_image lw tl tt M (xs (x3 + 1).toNatClampNeg) r M' hF) rfl ?_
  intro H locs w hS
  refine lv_aload_n hx hb dL_law_801 rfl (lv_at hl 2 rfl) ?_
  refine lv_aload_n hx hb dL_law_802 rfl (lv_at hl 0 rfl) ?_
  refine lv_iload_n hx hb dL_law_803 rfl (lv_at hl 3 rfl) ?_
  refine lv_iconst hx hb dL_law_804 ic_1 ?_
  refine lv_iadd hx hb dL_law_805 ?_
  refine va_sld hx hb hX hbl hbA hS i1 dL_law_806 ?_
  refine law_Mi C0 (N' := N') tM hl.1 (as := [vI (xs (x3 + 1).toNatClampNeg)]) w hS dL_law_807 cw_X9_image ml_L_92 mi_X9_image se_X9_image (Nat.le_of_ble_eq_true rfl) (Nat.le_of_ble_eq_true rfl) (m_X9_image  N (xs (x3 + 1).toNatClampNeg) r N' hG) rfl ?_
  intro H locs w hS
  refine lv_icmp_eq (tgt := 1556) hx hb dL_law_810 (by decide) (fun _ => ?_) (fun hc => absurd rfl hc)
  exact hnext lw tl tt M' N' hR H locs w hS
set_option maxRecDepth 100000 in
set_option maxHeartbeats 4000000 in
theorem law_case_19 {p : Program} {l : Launch} {e : Env} {s : State} {m : MethodId} {below : List Frame} {meth : Method} {c : Code} {b L : Nat} {xs : Nat → Int32} (C0 : lw_At p s m meth c b L xs) {dC : Nat → ClassId} {dI : Nat → Nat → Nat} {adC adM : Nat → Nat} {ca : Nat → ClassId} {lw : Nat → Option Nat} {tl tt : Option Nat} {M N : Mem} (tC : St adC (fun q : Nat => s.heap.size ≤ q) s s.heap) (tM : St adM (fun q : Nat => s.heap.size ≤ q) s s.heap) {tm : Nat} (ht : tm ≤ 3100) (hRel : Rel tm lw M N) {x3 : Int32} (i1 : vp_in (x3 + 1) L) (i2 : vp_in (x3 + 2) L) (i3 : vp_in (x3 + 3) L) (i4 : vp_in (x3 + 4) L) (i5 : vp_in (x3 + 5) L) {ls : Array Slot} (hl : lv_has ls 4 [(0, .ref b), (1, .ref (adC 0)), (2, .ref (adM 0)), (3, .int x3)])
    (hnext : ∀ (lw' : Nat → Option Nat) (tl' tt' : Option Nat) (M' N' : Mem), Rel (tm + 1) lw' M' N' → ∀ (H : Heap) (locs : List Loc), W2 dC dI adC adM ca (fun q : Nat => s.heap.size ≤ q) lw' tl' tt' M' N' s H → va_S (fun q : Nat => s.heap.size ≤ q) s.heap H locs → W p l e room_1 s m #[Value.ref b] below meth c H locs 80 2300 (lw_Z below #[Value.ref b] s) (F0 m 1556 ls [])) (H : Heap) (locs : List Loc) (w : W2 dC dI adC adM ca (fun q : Nat => s.heap.size ≤ q) lw tl tt M N s H) (hS : va_S (fun q : Nat => s.heap.size ≤ q) s.heap H locs) : W p l e room_1 s m #[Value.ref b] below meth c H locs 80 2300 (lw_Z below #[Value.ref b] s) (F0 m 815 ls []) := by
  obtain ⟨hx, hb, hr, hml, hown, hts0, hX, hbl, hlocks, hgv⟩ := id C0
  have hbA : ¬ (fun q : Nat => s.heap.size ≤ q) b := Nat.not_le.mpr hbl
  obtain ⟨r, M', N', hF, hG, hR⟩ := op_on tl tt ht hRel (xs (x3 + 1).toNatClampNeg)
  refine lv_aload_n hx hb dL_law_815 rfl (lv_at hl 1 rfl) ?_
  refine lv_aload_n hx hb dL_law_816 rfl (lv_at hl 0 rfl) ?_
  refine lv_iload_n hx hb dL_law_817 rfl (lv_at hl 3 rfl) ?_
  refine lv_iconst hx hb dL_law_818 ic_1 ?_
  refine lv_iadd hx hb dL_law_819 ?_
  refine va_sld hx hb hX hbl hbA hS i1 dL_law_820 ?_
  refine law_Ci C0 (lw' := lw) (tl' := tl) (tt' := tt) (M' := M') tC hl.1 (as := [vI (xs (x3 + 1).toNatClampNeg)]) w hS dL_law_821 cw_X8_on ml_L_93 mi_X8_on se_X8_on (Nat.zero_le _) (Nat.le_of_ble_eq_true rfl) (m_X8_on lw tl tt M (xs (x3 + 1).toNatClampNeg) r M' hF) rfl ?_
  intro H locs w hS
  refine lv_aload_n hx hb dL_law_824 rfl (lv_at hl 2 rfl) ?_
  refine lv_aload_n hx hb dL_law_825 rfl (lv_at hl 0 rfl) ?_
  refine lv_iload_n hx hb dL_law_826 rfl (lv_at hl 3 rfl) ?_
  refine lv_iconst hx hb dL_law_827 ic_1 ?_
  refine lv_iadd hx hb dL_law_828 ?_
  refine va_sld hx hb hX hbl hbA hS i1 dL_law_829 ?_
  refine law_Mi C0 (N' := N') tM hl.1 (as := [vI (xs (x3 + 1).toNatClampNeg)]) w hS dL_law_830 cw_X9_on ml_L_96 mi_X9_on se_X9_on (Nat.le_of_ble_eq_true rfl) (Nat.le_of_ble_eq_true rfl) (m_X9_on  N (xs (x3 + 1).toNatClampNeg) r N' hG) rfl ?_
  intro H locs w hS
  refine lv_icmp_eq (tgt := 1556) hx hb dL_law_833 (by decide) (fun _ => ?_) (fun hc => absurd rfl hc)
  exact hnext lw tl tt M' N' hR H locs w hS
set_option maxRecDepth 100000 in
set_option maxHeartbeats 4000000 in
theorem law_case_20 {p : Program} {l : Launch} {e : Env} {s : State} {m : MethodId} {below : List Frame} {meth : Method} {c : Code} {b L : Nat} {xs : Nat → Int32} (C0 : lw_At p s m meth c b L xs) {dC : Nat → ClassId} {dI : Nat → Nat → Nat} {adC adM : Nat → Nat} {ca : Nat → ClassId} {lw : Nat → Option Nat} {tl tt : Option Nat} {M N : Mem} (tC : St adC (fun q : Nat => s.heap.size ≤ q) s s.heap) (tM : St adM (fun q : Nat => s.heap.size ≤ q) s s.heap) {tm : Nat} (ht : tm ≤ 3100) (hRel : Rel tm lw M N) {x3 : Int32} (i1 : vp_in (x3 + 1) L) (i2 : vp_in (x3 + 2) L) (i3 : vp_in (x3 + 3) L) (i4 : vp_in (x3 + 4) L) (i5 : vp_in (x3 + 5) L) {ls : Array Slot} (hl : lv_has ls 4 [(0, .ref b), (1, .ref (adC 0)), (2, .ref (adM 0)), (3, .int x3)])
    (hnext : ∀ (lw' : Nat → Option Nat) (tl' tt' : Option Nat) (M' N' : Mem), Rel (tm + 1) lw' M' N' → ∀ (H : Heap) (locs : List Loc), W2 dC dI adC adM ca (fun q : Nat => s.heap.size ≤ q) lw' tl' tt' M' N' s H → va_S (fun q : Nat => s.heap.size ≤ q) s.heap H locs → W p l e room_1 s m #[Value.ref b] below meth c H locs 80 2300 (lw_Z below #[Value.ref b] s) (F0 m 1556 ls [])) (H : Heap) (locs : List Loc) (w : W2 dC dI adC adM ca (fun q : Nat => s.heap.size ≤ q) lw tl tt M N s H) (hS : va_S (fun q : Nat => s.heap.size ≤ q) s.heap H locs) : W p l e room_1 s m #[Value.ref b] below meth c H locs 80 2300 (lw_Z below #[Value.ref b] s) (F0 m 838 ls []) := by
  obtain ⟨hx, hb, hr, hml, hown, hts0, hX, hbl, hlocks, hgv⟩ := id C0
  have hbA : ¬ (fun q : Nat => s.heap.size ≤ q) b := Nat.not_le.mpr hbl
  obtain ⟨r, M', N', hF, hG, hR⟩ := op_then tl tt ht hRel (xs (x3 + 1).toNatClampNeg) (xs (x3 + 2).toNatClampNeg) (xs (x3 + 3).toNatClampNeg)
  refine lv_aload_n hx hb dL_law_838 rfl (lv_at hl 1 rfl) ?_
  refine lv_aload_n hx hb dL_law_839 rfl (lv_at hl 0 rfl) ?_
  refine lv_iload_n hx hb dL_law_840 rfl (lv_at hl 3 rfl) ?_
  refine lv_iconst hx hb dL_law_841 ic_1 ?_
  refine lv_iadd hx hb dL_law_842 ?_
  refine va_sld hx hb hX hbl hbA hS i1 dL_law_843 ?_
  refine lv_aload_n hx hb dL_law_844 rfl (lv_at hl 0 rfl) ?_
  refine lv_iload_n hx hb dL_law_845 rfl (lv_at hl 3 rfl) ?_
  refine lv_iconst hx hb dL_law_846 ic_2 ?_
  refine lv_iadd hx hb dL_law_847 ?_
  refine va_sld hx hb hX hbl hbA hS i2 dL_law_848 ?_
  refine lv_aload_n hx hb dL_law_849 rfl (lv_at hl 0 rfl) ?_
  refine lv_iload_n hx hb dL_law_850 rfl (lv_at hl 3 rfl) ?_
  refine lv_iconst hx hb dL_law_851 ic_3 ?_
  refine lv_iadd hx hb dL_law_852 ?_
  refine va_sld hx hb hX hbl hbA hS i3 dL_law_853 ?_
  refine law_Ci C0 (lw' := lw) (tl' := tl) (tt' := tt) (M' := M') tC hl.1 (as := [vI (xs (x3 + 1).toNatClampNeg), vI (xs (x3 + 2).toNatClampNeg), vI (xs (x3 + 3).toNatClampNeg)]) w hS dL_law_854 cw_X8_then ml_L_97 mi_X8_then se_X8_then (Nat.zero_le _) (Nat.le_of_ble_eq_true rfl) (m_X8_then lw tl tt M (xs (x3 + 1).toNatClampNeg) (xs (x3 + 2).toNatClampNeg) (xs (x3 + 3).toNatClampNeg) r M' hF) rfl ?_
  intro H locs w hS
  refine lv_aload_n hx hb dL_law_857 rfl (lv_at hl 2 rfl) ?_
  refine lv_aload_n hx hb dL_law_858 rfl (lv_at hl 0 rfl) ?_
  refine lv_iload_n hx hb dL_law_859 rfl (lv_at hl 3 rfl) ?_
  refine lv_iconst hx hb dL_law_860 ic_1 ?_
  refine lv_iadd hx hb dL_law_861 ?_
  refine va_sld hx hb hX hbl hbA hS i1 dL_law_862 ?_
  refine lv_aload_n hx hb dL_law_863 rfl (lv_at hl 0 rfl) ?_
  refine lv_iload_n hx hb dL_law_864 rfl (lv_at hl 3 rfl) ?_
  refine lv_iconst hx hb dL_law_865 ic_2 ?_
  refine lv_iadd hx hb dL_law_866 ?_
  refine va_sld hx hb hX hbl hbA hS i2 dL_law_867 ?_
  refine lv_aload_n hx hb dL_law_868 rfl (lv_at hl 0 rfl) ?_
  refine lv_iload_n hx hb dL_law_869 rfl (lv_at hl 3 rfl) ?_
  refine lv_iconst hx hb dL_law_870 ic_3 ?_
  refine lv_iadd hx hb dL_law_871 ?_
  refine va_sld hx hb hX hbl hbA hS i3 dL_law_872 ?_
  refine law_Mi C0 (N' := N') tM hl.1 (as := [vI (xs (x3 + 1).toNatClampNeg), vI (xs (x3 + 2).toNatClampNeg), vI (xs (x3 + 3).toNatClampNeg)]) w hS dL_law_873 cw_X9_then ml_L_100 mi_X9_then se_X9_then (Nat.le_of_ble_eq_true rfl) (Nat.le_of_ble_eq_true rfl) (m_X9_then  N (xs (x3 + 1).toNatClampNeg) (xs (x3 + 2).toNatClampNeg) (xs (x3 + 3).toNatClampNeg) r N' hG) rfl ?_
  intro H locs w hS
  refine lv_icmp_eq (tgt := 1556) hx hb dL_law_876 (by decide) (fun _ => ?_) (fun hc => absurd rfl hc)
  exact hnext lw tl tt M' N' hR H locs w hS
set_option maxRecDepth 100000 in
set_option maxHeartbeats 4000000 in
theorem law_case_21 {p : Program} {l : Launch} {e : Env} {s : State} {m : MethodId} {below : List Frame} {meth : Method} {c : Code} {b L : Nat} {xs : Nat → Int32} (C0 : lw_At p s m meth c b L xs) {dC : Nat → ClassId} {dI : Nat → Nat → Nat} {adC adM : Nat → Nat} {ca : Nat → ClassId} {lw : Nat → Option Nat} {tl tt : Option Nat} {M N : Mem} (tC : St adC (fun q : Nat => s.heap.size ≤ q) s s.heap) (tM : St adM (fun q : Nat => s.heap.size ≤ q) s s.heap) {tm : Nat} (ht : tm ≤ 3100) (hRel : Rel tm lw M N) {x3 : Int32} (i1 : vp_in (x3 + 1) L) (i2 : vp_in (x3 + 2) L) (i3 : vp_in (x3 + 3) L) (i4 : vp_in (x3 + 4) L) (i5 : vp_in (x3 + 5) L) {ls : Array Slot} (hl : lv_has ls 4 [(0, .ref b), (1, .ref (adC 0)), (2, .ref (adM 0)), (3, .int x3)])
    (hnext : ∀ (lw' : Nat → Option Nat) (tl' tt' : Option Nat) (M' N' : Mem), Rel (tm + 1) lw' M' N' → ∀ (H : Heap) (locs : List Loc), W2 dC dI adC adM ca (fun q : Nat => s.heap.size ≤ q) lw' tl' tt' M' N' s H → va_S (fun q : Nat => s.heap.size ≤ q) s.heap H locs → W p l e room_1 s m #[Value.ref b] below meth c H locs 80 2300 (lw_Z below #[Value.ref b] s) (F0 m 1556 ls [])) (H : Heap) (locs : List Loc) (w : W2 dC dI adC adM ca (fun q : Nat => s.heap.size ≤ q) lw tl tt M N s H) (hS : va_S (fun q : Nat => s.heap.size ≤ q) s.heap H locs) : W p l e room_1 s m #[Value.ref b] below meth c H locs 80 2300 (lw_Z below #[Value.ref b] s) (F0 m 881 ls []) := by
  obtain ⟨hx, hb, hr, hml, hown, hts0, hX, hbl, hlocks, hgv⟩ := id C0
  have hbA : ¬ (fun q : Nat => s.heap.size ≤ q) b := Nat.not_le.mpr hbl
  obtain ⟨r, M', N', hF, hG, hR⟩ := op_same tl tt ht hRel (xs (x3 + 1).toNatClampNeg) (xs (x3 + 2).toNatClampNeg) (xs (x3 + 3).toNatClampNeg) (xs (x3 + 4).toNatClampNeg)
  refine lv_aload_n hx hb dL_law_881 rfl (lv_at hl 1 rfl) ?_
  refine lv_aload_n hx hb dL_law_882 rfl (lv_at hl 0 rfl) ?_
  refine lv_iload_n hx hb dL_law_883 rfl (lv_at hl 3 rfl) ?_
  refine lv_iconst hx hb dL_law_884 ic_1 ?_
  refine lv_iadd hx hb dL_law_885 ?_
  refine va_sld hx hb hX hbl hbA hS i1 dL_law_886 ?_
  refine lv_aload_n hx hb dL_law_887 rfl (lv_at hl 0 rfl) ?_
  refine lv_iload_n hx hb dL_law_888 rfl (lv_at hl 3 rfl) ?_
  refine lv_iconst hx hb dL_law_889 ic_2 ?_
  refine lv_iadd hx hb dL_law_890 ?_
  refine va_sld hx hb hX hbl hbA hS i2 dL_law_891 ?_
  refine lv_aload_n hx hb dL_law_892 rfl (lv_at hl 0 rfl) ?_
  refine lv_iload_n hx hb dL_law_893 rfl (lv_at hl 3 rfl) ?_
  refine lv_iconst hx hb dL_law_894 ic_3 ?_
  refine lv_iadd hx hb dL_law_895 ?_
  refine va_sld hx hb hX hbl hbA hS i3 dL_law_896 ?_
  refine lv_aload_n hx hb dL_law_897 rfl (lv_at hl 0 rfl) ?_
  refine lv_iload_n hx hb dL_law_898 rfl (lv_at hl 3 rfl) ?_
  refine lv_iconst hx hb dL_law_899 ic_4 ?_
  refine lv_iadd hx hb dL_law_900 ?_
  refine va_sld hx hb hX hbl hbA hS i4 dL_law_901 ?_
  refine law_Ci C0 (lw' := lw) (tl' := tl) (tt' := tt) (M' := M') tC hl.1 (as := [vI (xs (x3 + 1).toNatClampNeg), vI (xs (x3 + 2).toNatClampNeg), vI (xs (x3 + 3).toNatClampNeg), vI (xs (x3 + 4).toNatClampNeg)]) w hS dL_law_902 cw_X8_same ml_L_101 mi_X8_same se_X8_same (Nat.zero_le _) (Nat.le_of_ble_eq_true rfl) (m_X8_same tl tt lw M (xs (x3 + 1).toNatClampNeg) (xs (x3 + 2).toNatClampNeg) (xs (x3 + 3).toNatClampNeg) (xs (x3 + 4).toNatClampNeg) r M' hF) rfl ?_
  intro H locs w hS
  refine lv_aload_n hx hb dL_law_905 rfl (lv_at hl 2 rfl) ?_
  refine lv_aload_n hx hb dL_law_906 rfl (lv_at hl 0 rfl) ?_
  refine lv_iload_n hx hb dL_law_907 rfl (lv_at hl 3 rfl) ?_
  refine lv_iconst hx hb dL_law_908 ic_1 ?_
  refine lv_iadd hx hb dL_law_909 ?_
  refine va_sld hx hb hX hbl hbA hS i1 dL_law_910 ?_
  refine lv_aload_n hx hb dL_law_911 rfl (lv_at hl 0 rfl) ?_
  refine lv_iload_n hx hb dL_law_912 rfl (lv_at hl 3 rfl) ?_
  refine lv_iconst hx hb dL_law_913 ic_2 ?_
  refine lv_iadd hx hb dL_law_914 ?_
  refine va_sld hx hb hX hbl hbA hS i2 dL_law_915 ?_
  refine lv_aload_n hx hb dL_law_916 rfl (lv_at hl 0 rfl) ?_
  refine lv_iload_n hx hb dL_law_917 rfl (lv_at hl 3 rfl) ?_
  refine lv_iconst hx hb dL_law_918 ic_3 ?_
  refine lv_iadd hx hb dL_law_919 ?_
  refine va_sld hx hb hX hbl hbA hS i3 dL_law_920 ?_
  refine lv_aload_n hx hb dL_law_921 rfl (lv_at hl 0 rfl) ?_
  refine lv_iload_n hx hb dL_law_922 rfl (lv_at hl 3 rfl) ?_
  refine lv_iconst hx hb dL_law_923 ic_4 ?_
  refine lv_iadd hx hb dL_law_924 ?_
  refine va_sld hx hb hX hbl hbA hS i4 dL_law_925 ?_
  refine law_Mi C0 (N' := N') tM hl.1 (as := [vI (xs (x3 + 1).toNatClampNeg), vI (xs (x3 + 2).toNatClampNeg), vI (xs (x3 + 3).toNatClampNeg), vI (xs (x3 + 4).toNatClampNeg)]) w hS dL_law_926 cw_X9_same ml_L_105 mi_X9_same se_X9_same (Nat.le_of_ble_eq_true rfl) (Nat.le_of_ble_eq_true rfl) (m_X9_same  N (xs (x3 + 1).toNatClampNeg) (xs (x3 + 2).toNatClampNeg) (xs (x3 + 3).toNatClampNeg) (xs (x3 + 4).toNatClampNeg) r N' hG) rfl ?_
  intro H locs w hS
  refine lv_icmp_eq (tgt := 1556) hx hb dL_law_929 (by decide) (fun _ => ?_) (fun hc => absurd rfl hc)
  exact hnext lw tl tt M' N' hR H locs w hS
set_option maxRecDepth 100000 in
set_option maxHeartbeats 4000000 in
theorem law_case_22 {p : Program} {l : Launch} {e : Env} {s : State} {m : MethodId} {below : List Frame} {meth : Method} {c : Code} {b L : Nat} {xs : Nat → Int32} (C0 : lw_At p s m meth c b L xs) {dC : Nat → ClassId} {dI : Nat → Nat → Nat} {adC adM : Nat → Nat} {ca : Nat → ClassId} {lw : Nat → Option Nat} {tl tt : Option Nat} {M N : Mem} (tC : St adC (fun q : Nat => s.heap.size ≤ q) s s.heap) (tM : St adM (fun q : Nat => s.heap.size ≤ q) s s.heap) {tm : Nat} (ht : tm ≤ 3100) (hRel : Rel tm lw M N) {x3 : Int32} (i1 : vp_in (x3 + 1) L) (i2 : vp_in (x3 + 2) L) (i3 : vp_in (x3 + 3) L) (i4 : vp_in (x3 + 4) L) (i5 : vp_in (x3 + 5) L) {ls : Array Slot} (hl : lv_has ls 4 [(0, .ref b), (1, .ref (adC 0)), (2, .ref (adM 0)), (3, .int x3)])
    (hnext : ∀ (lw' : Nat → Option Nat) (tl' tt' : Option Nat) (M' N' : Mem), Rel (tm + 1) lw' M' N' → ∀ (H : Heap) (locs : List Loc), W2 dC dI adC adM ca (fun q : Nat => s.heap.size ≤ q) lw' tl' tt' M' N' s H → va_S (fun q : Nat => s.heap.size ≤ q) s.heap H locs → W p l e room_1 s m #[Value.ref b] below meth c H locs 80 2300 (lw_Z below #[Value.ref b] s) (F0 m 1556 ls [])) (H : Heap) (locs : List Loc) (w : W2 dC dI adC adM ca (fun q : Nat => s.heap.size ≤ q) lw tl tt M N s H) (hS : va_S (fun q : Nat => s.heap.size ≤ q) s.heap H locs) : W p l e room_1 s m #[Value.ref b] below meth c H locs 80 2300 (lw_Z below #[Value.ref b] s) (F0 m 934 ls []) := by
  obtain ⟨hx, hb, hr, hml, hown, hts0, hX, hbl, hlocks, hgv⟩ := id C0
  have hbA : ¬ (fun q : Nat => s.heap.size ≤ q) b := Nat.not_le.mpr hbl
  obtain ⟨r, M', N', hF, hG, hR⟩ := op_which tl tt ht hRel (xs (x3 + 1).toNatClampNeg) (xs (x3 + 2).toNatClampNeg) (xs (x3 + 3).toNatClampNeg)
  refine lv_aload_n hx hb dL_law_934 rfl (lv_at hl 1 rfl) ?_
  refine lv_aload_n hx hb dL_law_935 rfl (lv_at hl 0 rfl) ?_
  refine lv_iload_n hx hb dL_law_936 rfl (lv_at hl 3 rfl) ?_
  refine lv_iconst hx hb dL_law_937 ic_1 ?_
  refine lv_iadd hx hb dL_law_938 ?_
  refine va_sld hx hb hX hbl hbA hS i1 dL_law_939 ?_
  refine lv_aload_n hx hb dL_law_940 rfl (lv_at hl 0 rfl) ?_
  refine lv_iload_n hx hb dL_law_941 rfl (lv_at hl 3 rfl) ?_
  refine lv_iconst hx hb dL_law_942 ic_2 ?_
  refine lv_iadd hx hb dL_law_943 ?_
  refine va_sld hx hb hX hbl hbA hS i2 dL_law_944 ?_
  refine lv_aload_n hx hb dL_law_945 rfl (lv_at hl 0 rfl) ?_
  refine lv_iload_n hx hb dL_law_946 rfl (lv_at hl 3 rfl) ?_
  refine lv_iconst hx hb dL_law_947 ic_3 ?_
  refine lv_iadd hx hb dL_law_948 ?_
  refine va_sld hx hb hX hbl hbA hS i3 dL_law_949 ?_
  refine law_Ci C0 (lw' := lw) (tl' := tl) (tt' := tt) (M' := M') tC hl.1 (as := [vI (xs (x3 + 1).toNatClampNeg), vI (xs (x3 + 2).toNatClampNeg), vI (xs (x3 + 3).toNatClampNeg)]) w hS dL_law_950 cw_X8_which ml_L_106 mi_X8_which se_X8_which (Nat.zero_le _) (Nat.le_of_ble_eq_true rfl) (m_X8_which tl tt lw M (xs (x3 + 1).toNatClampNeg) (xs (x3 + 2).toNatClampNeg) (xs (x3 + 3).toNatClampNeg) r M' hF) rfl ?_
  intro H locs w hS
  refine lv_aload_n hx hb dL_law_953 rfl (lv_at hl 2 rfl) ?_
  refine lv_aload_n hx hb dL_law_954 rfl (lv_at hl 0 rfl) ?_
  refine lv_iload_n hx hb dL_law_955 rfl (lv_at hl 3 rfl) ?_
  refine lv_iconst hx hb dL_law_956 ic_1 ?_
  refine lv_iadd hx hb dL_law_957 ?_
  refine va_sld hx hb hX hbl hbA hS i1 dL_law_958 ?_
  refine lv_aload_n hx hb dL_law_959 rfl (lv_at hl 0 rfl) ?_
  refine lv_iload_n hx hb dL_law_960 rfl (lv_at hl 3 rfl) ?_
  refine lv_iconst hx hb dL_law_961 ic_2 ?_
  refine lv_iadd hx hb dL_law_962 ?_
  refine va_sld hx hb hX hbl hbA hS i2 dL_law_963 ?_
  refine lv_aload_n hx hb dL_law_964 rfl (lv_at hl 0 rfl) ?_
  refine lv_iload_n hx hb dL_law_965 rfl (lv_at hl 3 rfl) ?_
  refine lv_iconst hx hb dL_law_966 ic_3 ?_
  refine lv_iadd hx hb dL_law_967 ?_
  refine va_sld hx hb hX hbl hbA hS i3 dL_law_968 ?_
  refine law_Mi C0 (N' := N') tM hl.1 (as := [vI (xs (x3 + 1).toNatClampNeg), vI (xs (x3 + 2).toNatClampNeg), vI (xs (x3 + 3).toNatClampNeg)]) w hS dL_law_969 cw_X9_which ml_L_109 mi_X9_which se_X9_which (Nat.le_of_ble_eq_true rfl) (Nat.le_of_ble_eq_true rfl) (m_X9_which  N (xs (x3 + 1).toNatClampNeg) (xs (x3 + 2).toNatClampNeg) (xs (x3 + 3).toNatClampNeg) r N' hG) rfl ?_
  intro H locs w hS
  refine lv_icmp_eq (tgt := 1556) hx hb dL_law_972 (by decide) (fun _ => ?_) (fun hc => absurd rfl hc)
  exact hnext lw tl tt M' N' hR H locs w hS
set_option maxRecDepth 100000 in
set_option maxHeartbeats 4000000 in
theorem law_case_23 {p : Program} {l : Launch} {e : Env} {s : State} {m : MethodId} {below : List Frame} {meth : Method} {c : Code} {b L : Nat} {xs : Nat → Int32} (C0 : lw_At p s m meth c b L xs) {dC : Nat → ClassId} {dI : Nat → Nat → Nat} {adC adM : Nat → Nat} {ca : Nat → ClassId} {lw : Nat → Option Nat} {tl tt : Option Nat} {M N : Mem} (tC : St adC (fun q : Nat => s.heap.size ≤ q) s s.heap) (tM : St adM (fun q : Nat => s.heap.size ≤ q) s s.heap) {tm : Nat} (ht : tm ≤ 3100) (hRel : Rel tm lw M N) {x3 : Int32} (i1 : vp_in (x3 + 1) L) (i2 : vp_in (x3 + 2) L) (i3 : vp_in (x3 + 3) L) (i4 : vp_in (x3 + 4) L) (i5 : vp_in (x3 + 5) L) {ls : Array Slot} (hl : lv_has ls 4 [(0, .ref b), (1, .ref (adC 0)), (2, .ref (adM 0)), (3, .int x3)])
    (hnext : ∀ (lw' : Nat → Option Nat) (tl' tt' : Option Nat) (M' N' : Mem), Rel (tm + 1) lw' M' N' → ∀ (H : Heap) (locs : List Loc), W2 dC dI adC adM ca (fun q : Nat => s.heap.size ≤ q) lw' tl' tt' M' N' s H → va_S (fun q : Nat => s.heap.size ≤ q) s.heap H locs → W p l e room_1 s m #[Value.ref b] below meth c H locs 80 2300 (lw_Z below #[Value.ref b] s) (F0 m 1556 ls [])) (H : Heap) (locs : List Loc) (w : W2 dC dI adC adM ca (fun q : Nat => s.heap.size ≤ q) lw tl tt M N s H) (hS : va_S (fun q : Nat => s.heap.size ≤ q) s.heap H locs) : W p l e room_1 s m #[Value.ref b] below meth c H locs 80 2300 (lw_Z below #[Value.ref b] s) (F0 m 977 ls []) := by
  obtain ⟨hx, hb, hr, hml, hown, hts0, hX, hbl, hlocks, hgv⟩ := id C0
  have hbA : ¬ (fun q : Nat => s.heap.size ≤ q) b := Nat.not_le.mpr hbl
  obtain ⟨r, M', N', hF, hG, hR⟩ := op_doubt tl tt ht hRel (xs (x3 + 1).toNatClampNeg) (xs (x3 + 2).toNatClampNeg)
  refine lv_aload_n hx hb dL_law_977 rfl (lv_at hl 1 rfl) ?_
  refine lv_aload_n hx hb dL_law_978 rfl (lv_at hl 0 rfl) ?_
  refine lv_iload_n hx hb dL_law_979 rfl (lv_at hl 3 rfl) ?_
  refine lv_iconst hx hb dL_law_980 ic_1 ?_
  refine lv_iadd hx hb dL_law_981 ?_
  refine va_sld hx hb hX hbl hbA hS i1 dL_law_982 ?_
  refine lv_aload_n hx hb dL_law_983 rfl (lv_at hl 0 rfl) ?_
  refine lv_iload_n hx hb dL_law_984 rfl (lv_at hl 3 rfl) ?_
  refine lv_iconst hx hb dL_law_985 ic_2 ?_
  refine lv_iadd hx hb dL_law_986 ?_
  refine va_sld hx hb hX hbl hbA hS i2 dL_law_987 ?_
  refine law_Ci C0 (lw' := lw) (tl' := tl) (tt' := tt) (M' := M') tC hl.1 (as := [vI (xs (x3 + 1).toNatClampNeg), vI (xs (x3 + 2).toNatClampNeg)]) w hS dL_law_988 cw_X8_doubt ml_L_110 mi_X8_doubt se_X8_doubt (Nat.zero_le _) (Nat.le_of_ble_eq_true rfl) (m_X8_doubt tl tt lw M (xs (x3 + 1).toNatClampNeg) (xs (x3 + 2).toNatClampNeg) r M' hF) rfl ?_
  intro H locs w hS
  refine lv_aload_n hx hb dL_law_991 rfl (lv_at hl 2 rfl) ?_
  refine lv_aload_n hx hb dL_law_992 rfl (lv_at hl 0 rfl) ?_
  refine lv_iload_n hx hb dL_law_993 rfl (lv_at hl 3 rfl) ?_
  refine lv_iconst hx hb dL_law_994 ic_1 ?_
  refine lv_iadd hx hb dL_law_995 ?_
  refine va_sld hx hb hX hbl hbA hS i1 dL_law_996 ?_
  refine lv_aload_n hx hb dL_law_997 rfl (lv_at hl 0 rfl) ?_
  refine lv_iload_n hx hb dL_law_998 rfl (lv_at hl 3 rfl) ?_
  refine lv_iconst hx hb dL_law_999 ic_2 ?_
  refine lv_iadd hx hb dL_law_1000 ?_
  refine va_sld hx hb hX hbl hbA hS i2 dL_law_1001 ?_
  refine law_Mi C0 (N' := N') tM hl.1 (as := [vI (xs (x3 + 1).toNatClampNeg), vI (xs (x3 + 2).toNatClampNeg)]) w hS dL_law_1002 cw_X9_doubt ml_L_113 mi_X9_doubt se_X9_doubt (Nat.le_of_ble_eq_true rfl) (Nat.le_of_ble_eq_true rfl) (m_X9_doubt  N (xs (x3 + 1).toNatClampNeg) (xs (x3 + 2).toNatClampNeg) r N' hG) rfl ?_
  intro H locs w hS
  refine lv_icmp_eq (tgt := 1556) hx hb dL_law_1005 (by decide) (fun _ => ?_) (fun hc => absurd rfl hc)
  exact hnext lw tl tt M' N' hR H locs w hS
set_option maxRecDepth 100000 in
set_option maxHeartbeats 4000000 in
theorem law_case_24 {p : Program} {l : Launch} {e : Env} {s : State} {m : MethodId} {below : List Frame} {meth : Method} {c : Code} {b L : Nat} {xs : Nat → Int32} (C0 : lw_At p s m meth c b L xs) {dC : Nat → ClassId} {dI : Nat → Nat → Nat} {adC adM : Nat → Nat} {ca : Nat → ClassId} {lw : Nat → Option Nat} {tl tt : Option Nat} {M N : Mem} (tC : St adC (fun q : Nat => s.heap.size ≤ q) s s.heap) (tM : St adM (fun q : Nat => s.heap.size ≤ q) s s.heap) {tm : Nat} (ht : tm ≤ 3100) (hRel : Rel tm lw M N) {x3 : Int32} (i1 : vp_in (x3 + 1) L) (i2 : vp_in (x3 + 2) L) (i3 : vp_in (x3 + 3) L) (i4 : vp_in (x3 + 4) L) (i5 : vp_in (x3 + 5) L) {ls : Array Slot} (hl : lv_has ls 4 [(0, .ref b), (1, .ref (adC 0)), (2, .ref (adM 0)), (3, .int x3)])
    (hnext : ∀ (lw' : Nat → Option Nat) (tl' tt' : Option Nat) (M' N' : Mem), Rel (tm + 1) lw' M' N' → ∀ (H : Heap) (locs : List Loc), W2 dC dI adC adM ca (fun q : Nat => s.heap.size ≤ q) lw' tl' tt' M' N' s H → va_S (fun q : Nat => s.heap.size ≤ q) s.heap H locs → W p l e room_1 s m #[Value.ref b] below meth c H locs 80 2300 (lw_Z below #[Value.ref b] s) (F0 m 1556 ls [])) (H : Heap) (locs : List Loc) (w : W2 dC dI adC adM ca (fun q : Nat => s.heap.size ≤ q) lw tl tt M N s H) (hS : va_S (fun q : Nat => s.heap.size ≤ q) s.heap H locs) : W p l e room_1 s m #[Value.ref b] below meth c H locs 80 2300 (lw_Z below #[Value.ref b] s) (F0 m 1010 ls []) := by
  obtain ⟨hx, hb, hr, hml, hown, hts0, hX, hbl, hlocks, hgv⟩ := id C0
  have hbA : ¬ (fun q : Nat => s.heap.size ≤ q) b := Nat.not_le.mpr hbl
  obtain ⟨r, M', N', hF, hG, hR⟩ := op_fair tl tt ht hRel (xs (x3 + 1).toNatClampNeg)
  refine lv_aload_n hx hb dL_law_1010 rfl (lv_at hl 1 rfl) ?_
  refine lv_aload_n hx hb dL_law_1011 rfl (lv_at hl 0 rfl) ?_
  refine lv_iload_n hx hb dL_law_1012 rfl (lv_at hl 3 rfl) ?_
  refine lv_iconst hx hb dL_law_1013 ic_1 ?_
  refine lv_iadd hx hb dL_law_1014 ?_
  refine va_sld hx hb hX hbl hbA hS i1 dL_law_1015 ?_
  refine law_Ci C0 (lw' := lw) (tl' := tl) (tt' := tt) (M' := M') tC hl.1 (as := [vI (xs (x3 + 1).toNatClampNeg)]) w hS dL_law_1016 cw_X8_fair ml_L_114 mi_X8_fair se_X8_fair (Nat.zero_le _) (Nat.le_of_ble_eq_true rfl) (m_X8_fair tl tt lw M (xs (x3 + 1).toNatClampNeg) r M' hF) rfl ?_
  intro H locs w hS
  refine lv_aload_n hx hb dL_law_1019 rfl (lv_at hl 2 rfl) ?_
  refine lv_aload_n hx hb dL_law_1020 rfl (lv_at hl 0 rfl) ?_
  refine lv_iload_n hx hb dL_law_1021 rfl (lv_at hl 3 rfl) ?_
  refine lv_iconst hx hb dL_law_1022 ic_1 ?_
  refine lv_iadd hx hb dL_law_1023 ?_
  refine va_sld hx hb hX hbl hbA hS i1 dL_law_1024 ?_
  refine law_Mi C0 (N' := N') tM hl.1 (as := [vI (xs (x3 + 1).toNatClampNeg)]) w hS dL_law_1025 cw_X9_fair ml_L_117 mi_X9_fair se_X9_fair (Nat.le_of_ble_eq_true rfl) (Nat.le_of_ble_eq_true rfl) (m_X9_fair  N (xs (x3 + 1).toNatClampNeg) r N' hG) rfl ?_
  intro H locs w hS
  refine lv_icmp_eq (tgt := 1556) hx hb dL_law_1028 (by decide) (fun _ => ?_) (fun hc => absurd rfl hc)
  exact hnext lw tl tt M' N' hR H locs w hS
set_option maxRecDepth 100000 in
set_option maxHeartbeats 4000000 in
theorem law_case_25 {p : Program} {l : Launch} {e : Env} {s : State} {m : MethodId} {below : List Frame} {meth : Method} {c : Code} {b L : Nat} {xs : Nat → Int32} (C0 : lw_At p s m meth c b L xs) {dC : Nat → ClassId} {dI : Nat → Nat → Nat} {adC adM : Nat → Nat} {ca : Nat → ClassId} {lw : Nat → Option Nat} {tl tt : Option Nat} {M N : Mem} (tC : St adC (fun q : Nat => s.heap.size ≤ q) s s.heap) (tM : St adM (fun q : Nat => s.heap.size ≤ q) s s.heap) {tm : Nat} (ht : tm ≤ 3100) (hRel : Rel tm lw M N) {x3 : Int32} (i1 : vp_in (x3 + 1) L) (i2 : vp_in (x3 + 2) L) (i3 : vp_in (x3 + 3) L) (i4 : vp_in (x3 + 4) L) (i5 : vp_in (x3 + 5) L) {ls : Array Slot} (hl : lv_has ls 4 [(0, .ref b), (1, .ref (adC 0)), (2, .ref (adM 0)), (3, .int x3)])
    (hnext : ∀ (lw' : Nat → Option Nat) (tl' tt' : Option Nat) (M' N' : Mem), Rel (tm + 1) lw' M' N' → ∀ (H : Heap) (locs : List Loc), W2 dC dI adC adM ca (fun q : Nat => s.heap.size ≤ q) lw' tl' tt' M' N' s H → va_S (fun q : Nat => s.heap.size ≤ q) s.heap H locs → W p l e room_1 s m #[Value.ref b] below meth c H locs 80 2300 (lw_Z below #[Value.ref b] s) (F0 m 1556 ls [])) (H : Heap) (locs : List Loc) (w : W2 dC dI adC adM ca (fun q : Nat => s.heap.size ≤ q) lw tl tt M N s H) (hS : va_S (fun q : Nat => s.heap.size ≤ q) s.heap H locs) : W p l e room_1 s m #[Value.ref b] below meth c H locs 80 2300 (lw_Z below #[Value.ref b] s) (F0 m 1033 ls []) := by
  obtain ⟨hx, hb, hr, hml, hown, hts0, hX, hbl, hlocks, hgv⟩ := id C0
  have hbA : ¬ (fun q : Nat => s.heap.size ≤ q) b := Nat.not_le.mpr hbl
  obtain ⟨r, M', N', hF, hG, hR⟩ := op_shovels tl tt ht hRel (xs (x3 + 1).toNatClampNeg)
  refine lv_aload_n hx hb dL_law_1033 rfl (lv_at hl 1 rfl) ?_
  refine lv_aload_n hx hb dL_law_1034 rfl (lv_at hl 0 rfl) ?_
  refine lv_iload_n hx hb dL_law_1035 rfl (lv_at hl 3 rfl) ?_
  refine lv_iconst hx hb dL_law_1036 ic_1 ?_
  refine lv_iadd hx hb dL_law_1037 ?_
  refine va_sld hx hb hX hbl hbA hS i1 dL_law_1038 ?_
  refine law_Ci C0 (lw' := lw) (tl' := tl) (tt' := tt) (M' := M') tC hl.1 (as := [vI (xs (x3 + 1).toNatClampNeg)]) w hS dL_law_1039 cw_X8_shovels ml_L_118 mi_X8_shovels se_X8_shovels (Nat.zero_le _) (Nat.le_of_ble_eq_true rfl) (m_X8_shovels lw tl tt M (xs (x3 + 1).toNatClampNeg) r M' hF) rfl ?_
  intro H locs w hS
  refine lv_aload_n hx hb dL_law_1042 rfl (lv_at hl 2 rfl) ?_
  refine lv_aload_n hx hb dL_law_1043 rfl (lv_at hl 0 rfl) ?_
  refine lv_iload_n hx hb dL_law_1044 rfl (lv_at hl 3 rfl) ?_
  refine lv_iconst hx hb dL_law_1045 ic_1 ?_
  refine lv_iadd hx hb dL_law_1046 ?_
  refine va_sld hx hb hX hbl hbA hS i1 dL_law_1047 ?_
  refine law_Mi C0 (N' := N') tM hl.1 (as := [vI (xs (x3 + 1).toNatClampNeg)]) w hS dL_law_1048 cw_X9_shovels ml_L_121 mi_X9_shovels se_X9_shovels (Nat.le_of_ble_eq_true rfl) (Nat.le_of_ble_eq_true rfl) (m_X9_shovels  N (xs (x3 + 1).toNatClampNeg) r N' hG) rfl ?_
  intro H locs w hS
  refine lv_icmp_eq (tgt := 1556) hx hb dL_law_1051 (by decide) (fun _ => ?_) (fun hc => absurd rfl hc)
  exact hnext lw tl tt M' N' hR H locs w hS
set_option maxRecDepth 100000 in
set_option maxHeartbeats 4000000 in
theorem law_case_26 {p : Program} {l : Launch} {e : Env} {s : State} {m : MethodId} {below : List Frame} {meth : Method} {c : Code} {b L : Nat} {xs : Nat → Int32} (C0 : lw_At p s m meth c b L xs) {dC : Nat → ClassId} {dI : Nat → Nat → Nat} {adC adM : Nat → Nat} {ca : Nat → ClassId} {lw : Nat → Option Nat} {tl tt : Option Nat} {M N : Mem} (tC : St adC (fun q : Nat => s.heap.size ≤ q) s s.heap) (tM : St adM (fun q : Nat => s.heap.size ≤ q) s s.heap) {tm : Nat} (ht : tm ≤ 3100) (hRel : Rel tm lw M N) {x3 : Int32} (i1 : vp_in (x3 + 1) L) (i2 : vp_in (x3 + 2) L) (i3 : vp_in (x3 + 3) L) (i4 : vp_in (x3 + 4) L) (i5 : vp_in (x3 + 5) L) {ls : Array Slot} (hl : lv_has ls 4 [(0, .ref b), (1, .ref (adC 0)), (2, .ref (adM 0)), (3, .int x3)])
    (hnext : ∀ (lw' : Nat → Option Nat) (tl' tt' : Option Nat) (M' N' : Mem), Rel (tm + 1) lw' M' N' → ∀ (H : Heap) (locs : List Loc), W2 dC dI adC adM ca (fun q : Nat => s.heap.size ≤ q) lw' tl' tt' M' N' s H → va_S (fun q : Nat => s.heap.size ≤ q) s.heap H locs → W p l e room_1 s m #[Value.ref b] below meth c H locs 80 2300 (lw_Z below #[Value.ref b] s) (F0 m 1556 ls [])) (H : Heap) (locs : List Loc) (w : W2 dC dI adC adM ca (fun q : Nat => s.heap.size ≤ q) lw tl tt M N s H) (hS : va_S (fun q : Nat => s.heap.size ≤ q) s.heap H locs) : W p l e room_1 s m #[Value.ref b] below meth c H locs 80 2300 (lw_Z below #[Value.ref b] s) (F0 m 1056 ls []) := by
  obtain ⟨hx, hb, hr, hml, hown, hts0, hX, hbl, hlocks, hgv⟩ := id C0
  have hbA : ¬ (fun q : Nat => s.heap.size ≤ q) b := Nat.not_le.mpr hbl
  obtain ⟨r, M', N', hF, hG, hR⟩ := op_suspect tl tt ht hRel (xs (x3 + 1).toNatClampNeg)
  refine lv_aload_n hx hb dL_law_1056 rfl (lv_at hl 1 rfl) ?_
  refine lv_aload_n hx hb dL_law_1057 rfl (lv_at hl 0 rfl) ?_
  refine lv_iload_n hx hb dL_law_1058 rfl (lv_at hl 3 rfl) ?_
  refine lv_iconst hx hb dL_law_1059 ic_1 ?_
  refine lv_iadd hx hb dL_law_1060 ?_
  refine va_sld hx hb hX hbl hbA hS i1 dL_law_1061 ?_
  refine law_Ci C0 (lw' := lw) (tl' := tl) (tt' := tt) (M' := M') tC hl.1 (as := [vI (xs (x3 + 1).toNatClampNeg)]) w hS dL_law_1062 cw_X8_suspect ml_L_122 mi_X8_suspect se_X8_suspect (Nat.zero_le _) (Nat.le_of_ble_eq_true rfl) (m_X8_suspect lw tl tt M (xs (x3 + 1).toNatClampNeg) r M' hF) rfl ?_
  intro H locs w hS
  refine lv_aload_n hx hb dL_law_1065 rfl (lv_at hl 2 rfl) ?_
  refine lv_aload_n hx hb dL_law_1066 rfl (lv_at hl 0 rfl) ?_
  refine lv_iload_n hx hb dL_law_1067 rfl (lv_at hl 3 rfl) ?_
  refine lv_iconst hx hb dL_law_1068 ic_1 ?_
  refine lv_iadd hx hb dL_law_1069 ?_
  refine va_sld hx hb hX hbl hbA hS i1 dL_law_1070 ?_
  refine law_Mi C0 (N' := N') tM hl.1 (as := [vI (xs (x3 + 1).toNatClampNeg)]) w hS dL_law_1071 cw_X9_suspect ml_L_125 mi_X9_suspect se_X9_suspect (Nat.le_of_ble_eq_true rfl) (Nat.le_of_ble_eq_true rfl) (m_X9_suspect  N (xs (x3 + 1).toNatClampNeg) r N' hG) rfl ?_
  intro H locs w hS
  refine lv_icmp_eq (tgt := 1556) hx hb dL_law_1074 (by decide) (fun _ => ?_) (fun hc => absurd rfl hc)
  exact hnext lw tl tt M' N' hR H locs w hS
set_option maxRecDepth 100000 in
set_option maxHeartbeats 4000000 in
theorem law_case_27 {p : Program} {l : Launch} {e : Env} {s : State} {m : MethodId} {below : List Frame} {meth : Method} {c : Code} {b L : Nat} {xs : Nat → Int32} (C0 : lw_At p s m meth c b L xs) {dC : Nat → ClassId} {dI : Nat → Nat → Nat} {adC adM : Nat → Nat} {ca : Nat → ClassId} {lw : Nat → Option Nat} {tl tt : Option Nat} {M N : Mem} (tC : St adC (fun q : Nat => s.heap.size ≤ q) s s.heap) (tM : St adM (fun q : Nat => s.heap.size ≤ q) s s.heap) {tm : Nat} (ht : tm ≤ 3100) (hRel : Rel tm lw M N) {x3 : Int32} (i1 : vp_in (x3 + 1) L) (i2 : vp_in (x3 + 2) L) (i3 : vp_in (x3 + 3) L) (i4 : vp_in (x3 + 4) L) (i5 : vp_in (x3 + 5) L) {ls : Array Slot} (hl : lv_has ls 4 [(0, .ref b), (1, .ref (adC 0)), (2, .ref (adM 0)), (3, .int x3)])
    (hnext : ∀ (lw' : Nat → Option Nat) (tl' tt' : Option Nat) (M' N' : Mem), Rel (tm + 1) lw' M' N' → ∀ (H : Heap) (locs : List Loc), W2 dC dI adC adM ca (fun q : Nat => s.heap.size ≤ q) lw' tl' tt' M' N' s H → va_S (fun q : Nat => s.heap.size ≤ q) s.heap H locs → W p l e room_1 s m #[Value.ref b] below meth c H locs 80 2300 (lw_Z below #[Value.ref b] s) (F0 m 1556 ls [])) (H : Heap) (locs : List Loc) (w : W2 dC dI adC adM ca (fun q : Nat => s.heap.size ≤ q) lw tl tt M N s H) (hS : va_S (fun q : Nat => s.heap.size ≤ q) s.heap H locs) : W p l e room_1 s m #[Value.ref b] below meth c H locs 80 2300 (lw_Z below #[Value.ref b] s) (F0 m 1079 ls []) := by
  obtain ⟨hx, hb, hr, hml, hown, hts0, hX, hbl, hlocks, hgv⟩ := id C0
  have hbA : ¬ (fun q : Nat => s.heap.size ≤ q) b := Nat.not_le.mpr hbl
  obtain ⟨r, N', hF, hG, hR⟩ := op_carry tl tt ht hRel (xs (x3 + 1).toNatClampNeg) (xs (x3 + 2).toNatClampNeg) (xs (x3 + 3).toNatClampNeg)
  refine lv_aload_n hx hb dL_law_1079 rfl (lv_at hl 1 rfl) ?_
  refine lv_aload_n hx hb dL_law_1080 rfl (lv_at hl 0 rfl) ?_
  refine lv_iload_n hx hb dL_law_1081 rfl (lv_at hl 3 rfl) ?_
  refine lv_iconst hx hb dL_law_1082 ic_1 ?_
  refine lv_iadd hx hb dL_law_1083 ?_
  refine va_sld hx hb hX hbl hbA hS i1 dL_law_1084 ?_
  refine lv_aload_n hx hb dL_law_1085 rfl (lv_at hl 0 rfl) ?_
  refine lv_iload_n hx hb dL_law_1086 rfl (lv_at hl 3 rfl) ?_
  refine lv_iconst hx hb dL_law_1087 ic_2 ?_
  refine lv_iadd hx hb dL_law_1088 ?_
  refine va_sld hx hb hX hbl hbA hS i2 dL_law_1089 ?_
  refine lv_aload_n hx hb dL_law_1090 rfl (lv_at hl 0 rfl) ?_
  refine lv_iload_n hx hb dL_law_1091 rfl (lv_at hl 3 rfl) ?_
  refine lv_iconst hx hb dL_law_1092 ic_3 ?_
  refine lv_iadd hx hb dL_law_1093 ?_
  refine va_sld hx hb hX hbl hbA hS i3 dL_law_1094 ?_
  refine law_Ci C0 (lw' := lw) (tl' := tl) (tt' := tt) (M' := M) tC hl.1 (as := [vI (xs (x3 + 1).toNatClampNeg), vI (xs (x3 + 2).toNatClampNeg), vI (xs (x3 + 3).toNatClampNeg)]) w hS dL_law_1095 cw_X8_carry ml_L_126 mi_X8_carry se_X8_carry (Nat.zero_le _) (Nat.le_of_ble_eq_true rfl) (m_X8_carry lw tl tt M (xs (x3 + 1).toNatClampNeg) (xs (x3 + 2).toNatClampNeg) (xs (x3 + 3).toNatClampNeg) r hF) rfl ?_
  intro H locs w hS
  refine lv_aload_n hx hb dL_law_1098 rfl (lv_at hl 2 rfl) ?_
  refine lv_aload_n hx hb dL_law_1099 rfl (lv_at hl 0 rfl) ?_
  refine lv_iload_n hx hb dL_law_1100 rfl (lv_at hl 3 rfl) ?_
  refine lv_iconst hx hb dL_law_1101 ic_1 ?_
  refine lv_iadd hx hb dL_law_1102 ?_
  refine va_sld hx hb hX hbl hbA hS i1 dL_law_1103 ?_
  refine lv_aload_n hx hb dL_law_1104 rfl (lv_at hl 0 rfl) ?_
  refine lv_iload_n hx hb dL_law_1105 rfl (lv_at hl 3 rfl) ?_
  refine lv_iconst hx hb dL_law_1106 ic_2 ?_
  refine lv_iadd hx hb dL_law_1107 ?_
  refine va_sld hx hb hX hbl hbA hS i2 dL_law_1108 ?_
  refine lv_aload_n hx hb dL_law_1109 rfl (lv_at hl 0 rfl) ?_
  refine lv_iload_n hx hb dL_law_1110 rfl (lv_at hl 3 rfl) ?_
  refine lv_iconst hx hb dL_law_1111 ic_3 ?_
  refine lv_iadd hx hb dL_law_1112 ?_
  refine va_sld hx hb hX hbl hbA hS i3 dL_law_1113 ?_
  refine law_Mi C0 (N' := N') tM hl.1 (as := [vI (xs (x3 + 1).toNatClampNeg), vI (xs (x3 + 2).toNatClampNeg), vI (xs (x3 + 3).toNatClampNeg)]) w hS dL_law_1114 cw_X9_carry ml_L_129 mi_X9_carry se_X9_carry (Nat.le_of_ble_eq_true rfl) (Nat.le_of_ble_eq_true rfl) (m_X9_carry  N (xs (x3 + 1).toNatClampNeg) (xs (x3 + 2).toNatClampNeg) (xs (x3 + 3).toNatClampNeg) r N' hG) rfl ?_
  intro H locs w hS
  refine lv_icmp_eq (tgt := 1556) hx hb dL_law_1117 (by decide) (fun _ => ?_) (fun hc => absurd rfl hc)
  exact hnext lw tl tt M N' hR H locs w hS
set_option maxRecDepth 100000 in
set_option maxHeartbeats 4000000 in
theorem law_case_28 {p : Program} {l : Launch} {e : Env} {s : State} {m : MethodId} {below : List Frame} {meth : Method} {c : Code} {b L : Nat} {xs : Nat → Int32} (C0 : lw_At p s m meth c b L xs) {dC : Nat → ClassId} {dI : Nat → Nat → Nat} {adC adM : Nat → Nat} {ca : Nat → ClassId} {lw : Nat → Option Nat} {tl tt : Option Nat} {M N : Mem} (tC : St adC (fun q : Nat => s.heap.size ≤ q) s s.heap) (tM : St adM (fun q : Nat => s.heap.size ≤ q) s s.heap) {tm : Nat} (ht : tm ≤ 3100) (hRel : Rel tm lw M N) {x3 : Int32} (i1 : vp_in (x3 + 1) L) (i2 : vp_in (x3 + 2) L) (i3 : vp_in (x3 + 3) L) (i4 : vp_in (x3 + 4) L) (i5 : vp_in (x3 + 5) L) {ls : Array Slot} (hl : lv_has ls 4 [(0, .ref b), (1, .ref (adC 0)), (2, .ref (adM 0)), (3, .int x3)])
    (hnext : ∀ (lw' : Nat → Option Nat) (tl' tt' : Option Nat) (M' N' : Mem), Rel (tm + 1) lw' M' N' → ∀ (H : Heap) (locs : List Loc), W2 dC dI adC adM ca (fun q : Nat => s.heap.size ≤ q) lw' tl' tt' M' N' s H → va_S (fun q : Nat => s.heap.size ≤ q) s.heap H locs → W p l e room_1 s m #[Value.ref b] below meth c H locs 80 2300 (lw_Z below #[Value.ref b] s) (F0 m 1556 ls [])) (H : Heap) (locs : List Loc) (w : W2 dC dI adC adM ca (fun q : Nat => s.heap.size ≤ q) lw tl tt M N s H) (hS : va_S (fun q : Nat => s.heap.size ≤ q) s.heap H locs) : W p l e room_1 s m #[Value.ref b] below meth c H locs 80 2300 (lw_Z below #[Value.ref b] s) (F0 m 1122 ls []) := by
  obtain ⟨hx, hb, hr, hml, hown, hts0, hX, hbl, hlocks, hgv⟩ := id C0
  have hbA : ¬ (fun q : Nat => s.heap.size ≤ q) b := Nat.not_le.mpr hbl
  obtain ⟨r, M', N', hF, hG, hR⟩ := op_join tl tt ht hRel (xs (x3 + 1).toNatClampNeg) (xs (x3 + 2).toNatClampNeg)
  refine lv_aload_n hx hb dL_law_1122 rfl (lv_at hl 1 rfl) ?_
  refine lv_aload_n hx hb dL_law_1123 rfl (lv_at hl 0 rfl) ?_
  refine lv_iload_n hx hb dL_law_1124 rfl (lv_at hl 3 rfl) ?_
  refine lv_iconst hx hb dL_law_1125 ic_1 ?_
  refine lv_iadd hx hb dL_law_1126 ?_
  refine va_sld hx hb hX hbl hbA hS i1 dL_law_1127 ?_
  refine lv_aload_n hx hb dL_law_1128 rfl (lv_at hl 0 rfl) ?_
  refine lv_iload_n hx hb dL_law_1129 rfl (lv_at hl 3 rfl) ?_
  refine lv_iconst hx hb dL_law_1130 ic_2 ?_
  refine lv_iadd hx hb dL_law_1131 ?_
  refine va_sld hx hb hX hbl hbA hS i2 dL_law_1132 ?_
  refine law_Ci C0 (lw' := lw) (tl' := tl) (tt' := tt) (M' := M') tC hl.1 (as := [vI (xs (x3 + 1).toNatClampNeg), vI (xs (x3 + 2).toNatClampNeg)]) w hS dL_law_1133 cw_X8_join ml_L_130 mi_X8_join se_X8_join (Nat.zero_le _) (Nat.le_of_ble_eq_true rfl) (m_X8_join lw tl tt M (xs (x3 + 1).toNatClampNeg) (xs (x3 + 2).toNatClampNeg) r M' hF) rfl ?_
  intro H locs w hS
  refine lv_aload_n hx hb dL_law_1136 rfl (lv_at hl 2 rfl) ?_
  refine lv_aload_n hx hb dL_law_1137 rfl (lv_at hl 0 rfl) ?_
  refine lv_iload_n hx hb dL_law_1138 rfl (lv_at hl 3 rfl) ?_
  refine lv_iconst hx hb dL_law_1139 ic_1 ?_
  refine lv_iadd hx hb dL_law_1140 ?_
  refine va_sld hx hb hX hbl hbA hS i1 dL_law_1141 ?_
  refine lv_aload_n hx hb dL_law_1142 rfl (lv_at hl 0 rfl) ?_
  refine lv_iload_n hx hb dL_law_1143 rfl (lv_at hl 3 rfl) ?_
  refine lv_iconst hx hb dL_law_1144 ic_2 ?_
  refine lv_iadd hx hb dL_law_1145 ?_
  refine va_sld hx hb hX hbl hbA hS i2 dL_law_1146 ?_
  refine law_Mi C0 (N' := N') tM hl.1 (as := [vI (xs (x3 + 1).toNatClampNeg), vI (xs (x3 + 2).toNatClampNeg)]) w hS dL_law_1147 cw_X9_join ml_L_133 mi_X9_join se_X9_join (Nat.le_of_ble_eq_true rfl) (Nat.le_of_ble_eq_true rfl) (m_X9_join  N (xs (x3 + 1).toNatClampNeg) (xs (x3 + 2).toNatClampNeg) r N' hG) rfl ?_
  intro H locs w hS
  refine lv_icmp_eq (tgt := 1556) hx hb dL_law_1150 (by decide) (fun _ => ?_) (fun hc => absurd rfl hc)
  exact hnext lw tl tt M' N' hR H locs w hS
set_option maxRecDepth 100000 in
set_option maxHeartbeats 4000000 in
theorem law_case_29 {p : Program} {l : Launch} {e : Env} {s : State} {m : MethodId} {below : List Frame} {meth : Method} {c : Code} {b L : Nat} {xs : Nat → Int32} (C0 : lw_At p s m meth c b L xs) {dC : Nat → ClassId} {dI : Nat → Nat → Nat} {adC adM : Nat → Nat} {ca : Nat → ClassId} {lw : Nat → Option Nat} {tl tt : Option Nat} {M N : Mem} (tC : St adC (fun q : Nat => s.heap.size ≤ q) s s.heap) (tM : St adM (fun q : Nat => s.heap.size ≤ q) s s.heap) {tm : Nat} (ht : tm ≤ 3100) (hRel : Rel tm lw M N) {x3 : Int32} (i1 : vp_in (x3 + 1) L) (i2 : vp_in (x3 + 2) L) (i3 : vp_in (x3 + 3) L) (i4 : vp_in (x3 + 4) L) (i5 : vp_in (x3 + 5) L) {ls : Array Slot} (hl : lv_has ls 4 [(0, .ref b), (1, .ref (adC 0)), (2, .ref (adM 0)), (3, .int x3)])
    (hnext : ∀ (lw' : Nat → Option Nat) (tl' tt' : Option Nat) (M' N' : Mem), Rel (tm + 1) lw' M' N' → ∀ (H : Heap) (locs : List Loc), W2 dC dI adC adM ca (fun q : Nat => s.heap.size ≤ q) lw' tl' tt' M' N' s H → va_S (fun q : Nat => s.heap.size ≤ q) s.heap H locs → W p l e room_1 s m #[Value.ref b] below meth c H locs 80 2300 (lw_Z below #[Value.ref b] s) (F0 m 1556 ls [])) (H : Heap) (locs : List Loc) (w : W2 dC dI adC adM ca (fun q : Nat => s.heap.size ≤ q) lw tl tt M N s H) (hS : va_S (fun q : Nat => s.heap.size ≤ q) s.heap H locs) : W p l e room_1 s m #[Value.ref b] below meth c H locs 80 2300 (lw_Z below #[Value.ref b] s) (F0 m 1155 ls []) := by
  obtain ⟨hx, hb, hr, hml, hown, hts0, hX, hbl, hlocks, hgv⟩ := id C0
  have hbA : ¬ (fun q : Nat => s.heap.size ≤ q) b := Nat.not_le.mpr hbl
  obtain ⟨r, M', N', hF, hG, hR⟩ := op_part tl tt ht hRel (xs (x3 + 1).toNatClampNeg)
  refine lv_aload_n hx hb dL_law_1155 rfl (lv_at hl 1 rfl) ?_
  refine lv_aload_n hx hb dL_law_1156 rfl (lv_at hl 0 rfl) ?_
  refine lv_iload_n hx hb dL_law_1157 rfl (lv_at hl 3 rfl) ?_
  refine lv_iconst hx hb dL_law_1158 ic_1 ?_
  refine lv_iadd hx hb dL_law_1159 ?_
  refine va_sld hx hb hX hbl hbA hS i1 dL_law_1160 ?_
  refine law_Ci C0 (lw' := lw) (tl' := tl) (tt' := tt) (M' := M') tC hl.1 (as := [vI (xs (x3 + 1).toNatClampNeg)]) w hS dL_law_1161 cw_X8_part ml_L_134 mi_X8_part se_X8_part (Nat.zero_le _) (Nat.le_of_ble_eq_true rfl) (m_X8_part lw tl tt M (xs (x3 + 1).toNatClampNeg) r M' hF) rfl ?_
  intro H locs w hS
  refine lv_aload_n hx hb dL_law_1164 rfl (lv_at hl 2 rfl) ?_
  refine lv_aload_n hx hb dL_law_1165 rfl (lv_at hl 0 rfl) ?_
  refine lv_iload_n hx hb dL_law_1166 rfl (lv_at hl 3 rfl) ?_
  refine lv_iconst hx hb dL_law_1167 ic_1 ?_
  refine lv_iadd hx hb dL_law_1168 ?_
  refine va_sld hx hb hX hbl hbA hS i1 dL_law_1169 ?_
  refine law_Mi C0 (N' := N') tM hl.1 (as := [vI (xs (x3 + 1).toNatClampNeg)]) w hS dL_law_1170 cw_X9_part_ ml_L_137 mi_X9_part_ se_X9_part_ (Nat.le_of_ble_eq_true rfl) (Nat.le_of_ble_eq_true rfl) (m_X9_part_  N (xs (x3 + 1).toNatClampNeg) r N' hG) rfl ?_
  intro H locs w hS
  refine lv_icmp_eq (tgt := 1556) hx hb dL_law_1173 (by decide) (fun _ => ?_) (fun hc => absurd rfl hc)
  exact hnext lw tl tt M' N' hR H locs w hS
set_option maxRecDepth 100000 in
set_option maxHeartbeats 4000000 in
theorem law_case_30 {p : Program} {l : Launch} {e : Env} {s : State} {m : MethodId} {below : List Frame} {meth : Method} {c : Code} {b L : Nat} {xs : Nat → Int32} (C0 : lw_At p s m meth c b L xs) {dC : Nat → ClassId} {dI : Nat → Nat → Nat} {adC adM : Nat → Nat} {ca : Nat → ClassId} {lw : Nat → Option Nat} {tl tt : Option Nat} {M N : Mem} (tC : St adC (fun q : Nat => s.heap.size ≤ q) s s.heap) (tM : St adM (fun q : Nat => s.heap.size ≤ q) s s.heap) {tm : Nat} (ht : tm ≤ 3100) (hRel : Rel tm lw M N) {x3 : Int32} (i1 : vp_in (x3 + 1) L) (i2 : vp_in (x3 + 2) L) (i3 : vp_in (x3 + 3) L) (i4 : vp_in (x3 + 4) L) (i5 : vp_in (x3 + 5) L) {ls : Array Slot} (hl : lv_has ls 4 [(0, .ref b), (1, .ref (adC 0)), (2, .ref (adM 0)), (3, .int x3)])
    (hnext : ∀ (lw' : Nat → Option Nat) (tl' tt' : Option Nat) (M' N' : Mem), Rel (tm + 1) lw' M' N' → ∀ (H : Heap) (locs : List Loc), W2 dC dI adC adM ca (fun q : Nat => s.heap.size ≤ q) lw' tl' tt' M' N' s H → va_S (fun q : Nat => s.heap.size ≤ q) s.heap H locs → W p l e room_1 s m #[Value.ref b] below meth c H locs 80 2300 (lw_Z below #[Value.ref b] s) (F0 m 1556 ls [])) (H : Heap) (locs : List Loc) (w : W2 dC dI adC adM ca (fun q : Nat => s.heap.size ≤ q) lw tl tt M N s H) (hS : va_S (fun q : Nat => s.heap.size ≤ q) s.heap H locs) : W p l e room_1 s m #[Value.ref b] below meth c H locs 80 2300 (lw_Z below #[Value.ref b] s) (F0 m 1178 ls []) := by
  obtain ⟨hx, hb, hr, hml, hown, hts0, hX, hbl, hlocks, hgv⟩ := id C0
  have hbA : ¬ (fun q : Nat => s.heap.size ≤ q) b := Nat.not_le.mpr hbl
  obtain ⟨r, tl', tt', M', N', hF, hG, hR⟩ := op_steal tl tt ht hRel (xs (x3 + 1).toNatClampNeg) (xs (x3 + 2).toNatClampNeg) (xs (x3 + 3).toNatClampNeg) (xs (x3 + 4).toNatClampNeg) (xs (x3 + 5).toNatClampNeg)
  refine lv_aload_n hx hb dL_law_1178 rfl (lv_at hl 1 rfl) ?_
  refine lv_aload_n hx hb dL_law_1179 rfl (lv_at hl 0 rfl) ?_
  refine lv_iload_n hx hb dL_law_1180 rfl (lv_at hl 3 rfl) ?_
  refine lv_iconst hx hb dL_law_1181 ic_1 ?_
  refine lv_iadd hx hb dL_law_1182 ?_
  refine va_sld hx hb hX hbl hbA hS i1 dL_law_1183 ?_
  refine lv_aload_n hx hb dL_law_1184 rfl (lv_at hl 0 rfl) ?_
  refine lv_iload_n hx hb dL_law_1185 rfl (lv_at hl 3 rfl) ?_
  refine lv_iconst hx hb dL_law_1186 ic_2 ?_
  refine lv_iadd hx hb dL_law_1187 ?_
  refine va_sld hx hb hX hbl hbA hS i2 dL_law_1188 ?_
  refine lv_aload_n hx hb dL_law_1189 rfl (lv_at hl 0 rfl) ?_
  refine lv_iload_n hx hb dL_law_1190 rfl (lv_at hl 3 rfl) ?_
  refine lv_iconst hx hb dL_law_1191 ic_3 ?_
  refine lv_iadd hx hb dL_law_1192 ?_
  refine va_sld hx hb hX hbl hbA hS i3 dL_law_1193 ?_
  refine lv_aload_n hx hb dL_law_1194 rfl (lv_at hl 0 rfl) ?_
  refine lv_iload_n hx hb dL_law_1195 rfl (lv_at hl 3 rfl) ?_
  refine lv_iconst hx hb dL_law_1196 ic_4 ?_
  refine lv_iadd hx hb dL_law_1197 ?_
  refine va_sld hx hb hX hbl hbA hS i4 dL_law_1198 ?_
  refine lv_aload_n hx hb dL_law_1199 rfl (lv_at hl 0 rfl) ?_
  refine lv_iload_n hx hb dL_law_1200 rfl (lv_at hl 3 rfl) ?_
  refine lv_iconst hx hb dL_law_1201 ic_5 ?_
  refine lv_iadd hx hb dL_law_1202 ?_
  refine va_sld hx hb hX hbl hbA hS i5 dL_law_1203 ?_
  refine law_Ci C0 (lw' := lw) (tl' := tl') (tt' := tt') (M' := M') tC hl.1 (as := [vI (xs (x3 + 1).toNatClampNeg), vI (xs (x3 + 2).toNatClampNeg), vI (xs (x3 + 3).toNatClampNeg), vI (xs (x3 + 4).toNatClampNeg), vI (xs (x3 + 5).toNatClampNeg)]) w hS dL_law_1204 cw_X8_steal ml_L_138 mi_X8_steal se_X8_steal (Nat.zero_le _) (Nat.le_of_ble_eq_true rfl) (m_X8_steal  lw tl tt M (xs (x3 + 1).toNatClampNeg) (xs (x3 + 2).toNatClampNeg) (xs (x3 + 3).toNatClampNeg) (xs (x3 + 4).toNatClampNeg) (xs (x3 + 5).toNatClampNeg) r tl' tt' M' hF) rfl ?_
  intro H locs w hS
  refine lv_aload_n hx hb dL_law_1207 rfl (lv_at hl 2 rfl) ?_
  refine lv_aload_n hx hb dL_law_1208 rfl (lv_at hl 0 rfl) ?_
  refine lv_iload_n hx hb dL_law_1209 rfl (lv_at hl 3 rfl) ?_
  refine lv_iconst hx hb dL_law_1210 ic_1 ?_
  refine lv_iadd hx hb dL_law_1211 ?_
  refine va_sld hx hb hX hbl hbA hS i1 dL_law_1212 ?_
  refine lv_aload_n hx hb dL_law_1213 rfl (lv_at hl 0 rfl) ?_
  refine lv_iload_n hx hb dL_law_1214 rfl (lv_at hl 3 rfl) ?_
  refine lv_iconst hx hb dL_law_1215 ic_2 ?_
  refine lv_iadd hx hb dL_law_1216 ?_
  refine va_sld hx hb hX hbl hbA hS i2 dL_law_1217 ?_
  refine lv_aload_n hx hb dL_law_1218 rfl (lv_at hl 0 rfl) ?_
  refine lv_iload_n hx hb dL_law_1219 rfl (lv_at hl 3 rfl) ?_
  refine lv_iconst hx hb dL_law_1220 ic_3 ?_
  refine lv_iadd hx hb dL_law_1221 ?_
  refine va_sld hx hb hX hbl hbA hS i3 dL_law_1222 ?_
  refine lv_aload_n hx hb dL_law_1223 rfl (lv_at hl 0 rfl) ?_
  refine lv_iload_n hx hb dL_law_1224 rfl (lv_at hl 3 rfl) ?_
  refine lv_iconst hx hb dL_law_1225 ic_4 ?_
  refine lv_iadd hx hb dL_law_1226 ?_
  refine va_sld hx hb hX hbl hbA hS i4 dL_law_1227 ?_
  refine lv_aload_n hx hb dL_law_1228 rfl (lv_at hl 0 rfl) ?_
  refine lv_iload_n hx hb dL_law_1229 rfl (lv_at hl 3 rfl) ?_
  refine lv_iconst hx hb dL_law_1230 ic_5 ?_
  refine lv_iadd hx hb dL_law_1231 ?_
  refine va_sld hx hb hX hbl hbA hS i5 dL_law_1232 ?_
  refine law_Mi C0 (N' := N') tM hl.1 (as := [vI (xs (x3 + 1).toNatClampNeg), vI (xs (x3 + 2).toNatClampNeg), vI (xs (x3 + 3).toNatClampNeg), vI (xs (x3 + 4).toNatClampNeg), vI (xs (x3 + 5).toNatClampNeg)]) w hS dL_law_1233 cw_X9_steal ml_L_141 mi_X9_steal se_X9_steal (Nat.le_of_ble_eq_true rfl) (Nat.le_of_ble_eq_true rfl) (m_X9_steal  N (xs (x3 + 1).toNatClampNeg) (xs (x3 + 2).toNatClampNeg) (xs (x3 + 3).toNatClampNeg) (xs (x3 + 4).toNatClampNeg) (xs (x3 + 5).toNatClampNeg) r N' hG) rfl ?_
  intro H locs w hS
  refine lv_icmp_eq (tgt := 1556) hx hb dL_law_1236 (by decide) (fun _ => ?_) (fun hc => absurd rfl hc)
  exact hnext lw tl' tt' M' N' hR H locs w hS
set_option maxRecDepth 100000 in
set_option maxHeartbeats 4000000 in
theorem law_case_31 {p : Program} {l : Launch} {e : Env} {s : State} {m : MethodId} {below : List Frame} {meth : Method} {c : Code} {b L : Nat} {xs : Nat → Int32} (C0 : lw_At p s m meth c b L xs) {dC : Nat → ClassId} {dI : Nat → Nat → Nat} {adC adM : Nat → Nat} {ca : Nat → ClassId} {lw : Nat → Option Nat} {tl tt : Option Nat} {M N : Mem} (tC : St adC (fun q : Nat => s.heap.size ≤ q) s s.heap) (tM : St adM (fun q : Nat => s.heap.size ≤ q) s s.heap) {tm : Nat} (ht : tm ≤ 3100) (hRel : Rel tm lw M N) {x3 : Int32} (i1 : vp_in (x3 + 1) L) (i2 : vp_in (x3 + 2) L) (i3 : vp_in (x3 + 3) L) (i4 : vp_in (x3 + 4) L) (i5 : vp_in (x3 + 5) L) {ls : Array Slot} (hl : lv_has ls 4 [(0, .ref b), (1, .ref (adC 0)), (2, .ref (adM 0)), (3, .int x3)])
    (hnext : ∀ (lw' : Nat → Option Nat) (tl' tt' : Option Nat) (M' N' : Mem), Rel (tm + 1) lw' M' N' → ∀ (H : Heap) (locs : List Loc), W2 dC dI adC adM ca (fun q : Nat => s.heap.size ≤ q) lw' tl' tt' M' N' s H → va_S (fun q : Nat => s.heap.size ≤ q) s.heap H locs → W p l e room_1 s m #[Value.ref b] below meth c H locs 80 2300 (lw_Z below #[Value.ref b] s) (F0 m 1556 ls [])) (H : Heap) (locs : List Loc) (w : W2 dC dI adC adM ca (fun q : Nat => s.heap.size ≤ q) lw tl tt M N s H) (hS : va_S (fun q : Nat => s.heap.size ≤ q) s.heap H locs) : W p l e room_1 s m #[Value.ref b] below meth c H locs 80 2300 (lw_Z below #[Value.ref b] s) (F0 m 1241 ls []) := by
  obtain ⟨hx, hb, hr, hml, hown, hts0, hX, hbl, hlocks, hgv⟩ := id C0
  have hbA : ¬ (fun q : Nat => s.heap.size ≤ q) b := Nat.not_le.mpr hbl
  obtain ⟨r, M', N', hF, hG, hR⟩ := op_share tl tt ht hRel (xs (x3 + 1).toNatClampNeg) (xs (x3 + 2).toNatClampNeg)
  refine lv_aload_n hx hb dL_law_1241 rfl (lv_at hl 1 rfl) ?_
  refine lv_aload_n hx hb dL_law_1242 rfl (lv_at hl 0 rfl) ?_
  refine lv_iload_n hx hb dL_law_1243 rfl (lv_at hl 3 rfl) ?_
  refine lv_iconst hx hb dL_law_1244 ic_1 ?_
  refine lv_iadd hx hb dL_law_1245 ?_
  refine va_sld hx hb hX hbl hbA hS i1 dL_law_1246 ?_
  refine lv_aload_n hx hb dL_law_1247 rfl (lv_at hl 0 rfl) ?_
  refine lv_iload_n hx hb dL_law_1248 rfl (lv_at hl 3 rfl) ?_
  refine lv_iconst hx hb dL_law_1249 ic_2 ?_
  refine lv_iadd hx hb dL_law_1250 ?_
  refine va_sld hx hb hX hbl hbA hS i2 dL_law_1251 ?_
  refine law_Ci C0 (lw' := lw) (tl' := tl) (tt' := tt) (M' := M') tC hl.1 (as := [vI (xs (x3 + 1).toNatClampNeg), vI (xs (x3 + 2).toNatClampNeg)]) w hS dL_law_1252 cw_X8_share ml_L_142 mi_X8_share se_X8_share (Nat.zero_le _) (Nat.le_of_ble_eq_true rfl) (m_X8_share lw tl tt M (xs (x3 + 1).toNatClampNeg) (xs (x3 + 2).toNatClampNeg) r M' hF) rfl ?_
  intro H locs w hS
  refine lv_aload_n hx hb dL_law_1255 rfl (lv_at hl 2 rfl) ?_
  refine lv_aload_n hx hb dL_law_1256 rfl (lv_at hl 0 rfl) ?_
  refine lv_iload_n hx hb dL_law_1257 rfl (lv_at hl 3 rfl) ?_
  refine lv_iconst hx hb dL_law_1258 ic_1 ?_
  refine lv_iadd hx hb dL_law_1259 ?_
  refine va_sld hx hb hX hbl hbA hS i1 dL_law_1260 ?_
  refine lv_aload_n hx hb dL_law_1261 rfl (lv_at hl 0 rfl) ?_
  refine lv_iload_n hx hb dL_law_1262 rfl (lv_at hl 3 rfl) ?_
  refine lv_iconst hx hb dL_law_1263 ic_2 ?_
  refine lv_iadd hx hb dL_law_1264 ?_
  refine va_sld hx hb hX hbl hbA hS i2 dL_law_1265 ?_
  refine law_Mi C0 (N' := N') tM hl.1 (as := [vI (xs (x3 + 1).toNatClampNeg), vI (xs (x3 + 2).toNatClampNeg)]) w hS dL_law_1266 cw_X9_share ml_L_145 mi_X9_share se_X9_share (Nat.le_of_ble_eq_true rfl) (Nat.le_of_ble_eq_true rfl) (m_X9_share  N (xs (x3 + 1).toNatClampNeg) (xs (x3 + 2).toNatClampNeg) r N' hG) rfl ?_
  intro H locs w hS
  refine lv_icmp_eq (tgt := 1556) hx hb dL_law_1269 (by decide) (fun _ => ?_) (fun hc => absurd rfl hc)
  exact hnext lw tl tt M' N' hR H locs w hS
set_option maxRecDepth 100000 in
set_option maxHeartbeats 4000000 in
theorem law_case_32 {p : Program} {l : Launch} {e : Env} {s : State} {m : MethodId} {below : List Frame} {meth : Method} {c : Code} {b L : Nat} {xs : Nat → Int32} (C0 : lw_At p s m meth c b L xs) {dC : Nat → ClassId} {dI : Nat → Nat → Nat} {adC adM : Nat → Nat} {ca : Nat → ClassId} {lw : Nat → Option Nat} {tl tt : Option Nat} {M N : Mem} (tC : St adC (fun q : Nat => s.heap.size ≤ q) s s.heap) (tM : St adM (fun q : Nat => s.heap.size ≤ q) s s.heap) {tm : Nat} (ht : tm ≤ 3100) (hRel : Rel tm lw M N) {x3 : Int32} (i1 : vp_in (x3 + 1) L) (i2 : vp_in (x3 + 2) L) (i3 : vp_in (x3 + 3) L) (i4 : vp_in (x3 + 4) L) (i5 : vp_in (x3 + 5) L) {ls : Array Slot} (hl : lv_has ls 4 [(0, .ref b), (1, .ref (adC 0)), (2, .ref (adM 0)), (3, .int x3)])
    (hnext : ∀ (lw' : Nat → Option Nat) (tl' tt' : Option Nat) (M' N' : Mem), Rel (tm + 1) lw' M' N' → ∀ (H : Heap) (locs : List Loc), W2 dC dI adC adM ca (fun q : Nat => s.heap.size ≤ q) lw' tl' tt' M' N' s H → va_S (fun q : Nat => s.heap.size ≤ q) s.heap H locs → W p l e room_1 s m #[Value.ref b] below meth c H locs 80 2300 (lw_Z below #[Value.ref b] s) (F0 m 1556 ls [])) (H : Heap) (locs : List Loc) (w : W2 dC dI adC adM ca (fun q : Nat => s.heap.size ≤ q) lw tl tt M N s H) (hS : va_S (fun q : Nat => s.heap.size ≤ q) s.heap H locs) : W p l e room_1 s m #[Value.ref b] below meth c H locs 80 2300 (lw_Z below #[Value.ref b] s) (F0 m 1274 ls []) := by
  obtain ⟨hx, hb, hr, hml, hown, hts0, hX, hbl, hlocks, hgv⟩ := id C0
  have hbA : ¬ (fun q : Nat => s.heap.size ≤ q) b := Nat.not_le.mpr hbl
  obtain ⟨r, M', N', hF, hG, hR⟩ := op_heaps tl tt ht hRel (xs (x3 + 1).toNatClampNeg)
  refine lv_aload_n hx hb dL_law_1274 rfl (lv_at hl 1 rfl) ?_
  refine lv_aload_n hx hb dL_law_1275 rfl (lv_at hl 0 rfl) ?_
  refine lv_iload_n hx hb dL_law_1276 rfl (lv_at hl 3 rfl) ?_
  refine lv_iconst hx hb dL_law_1277 ic_1 ?_
  refine lv_iadd hx hb dL_law_1278 ?_
  refine va_sld hx hb hX hbl hbA hS i1 dL_law_1279 ?_
  refine law_Ci C0 (lw' := lw) (tl' := tl) (tt' := tt) (M' := M') tC hl.1 (as := [vI (xs (x3 + 1).toNatClampNeg)]) w hS dL_law_1280 cw_X8_heaps ml_L_146 mi_X8_heaps se_X8_heaps (Nat.zero_le _) (Nat.le_of_ble_eq_true rfl) (m_X8_heaps lw tl tt M (xs (x3 + 1).toNatClampNeg) r M' hF) rfl ?_
  intro H locs w hS
  refine lv_aload_n hx hb dL_law_1283 rfl (lv_at hl 2 rfl) ?_
  refine lv_aload_n hx hb dL_law_1284 rfl (lv_at hl 0 rfl) ?_
  refine lv_iload_n hx hb dL_law_1285 rfl (lv_at hl 3 rfl) ?_
  refine lv_iconst hx hb dL_law_1286 ic_1 ?_
  refine lv_iadd hx hb dL_law_1287 ?_
  refine va_sld hx hb hX hbl hbA hS i1 dL_law_1288 ?_
  refine law_Mi C0 (N' := N') tM hl.1 (as := [vI (xs (x3 + 1).toNatClampNeg)]) w hS dL_law_1289 cw_X9_heaps ml_L_149 mi_X9_heaps se_X9_heaps (Nat.le_of_ble_eq_true rfl) (Nat.le_of_ble_eq_true rfl) (m_X9_heaps  N (xs (x3 + 1).toNatClampNeg) r N' hG) rfl ?_
  intro H locs w hS
  refine lv_icmp_eq (tgt := 1556) hx hb dL_law_1292 (by decide) (fun _ => ?_) (fun hc => absurd rfl hc)
  exact hnext lw tl tt M' N' hR H locs w hS
set_option maxRecDepth 100000 in
set_option maxHeartbeats 4000000 in
theorem law_case_33 {p : Program} {l : Launch} {e : Env} {s : State} {m : MethodId} {below : List Frame} {meth : Method} {c : Code} {b L : Nat} {xs : Nat → Int32} (C0 : lw_At p s m meth c b L xs) {dC : Nat → ClassId} {dI : Nat → Nat → Nat} {adC adM : Nat → Nat} {ca : Nat → ClassId} {lw : Nat → Option Nat} {tl tt : Option Nat} {M N : Mem} (tC : St adC (fun q : Nat => s.heap.size ≤ q) s s.heap) (tM : St adM (fun q : Nat => s.heap.size ≤ q) s s.heap) {tm : Nat} (ht : tm ≤ 3100) (hRel : Rel tm lw M N) {x3 : Int32} (i1 : vp_in (x3 + 1) L) (i2 : vp_in (x3 + 2) L) (i3 : vp_in (x3 + 3) L) (i4 : vp_in (x3 + 4) L) (i5 : vp_in (x3 + 5) L) {ls : Array Slot} (hl : lv_has ls 4 [(0, .ref b), (1, .ref (adC 0)), (2, .ref (adM 0)), (3, .int x3)])
    (hnext : ∀ (lw' : Nat → Option Nat) (tl' tt' : Option Nat) (M' N' : Mem), Rel (tm + 1) lw' M' N' → ∀ (H : Heap) (locs : List Loc), W2 dC dI adC adM ca (fun q : Nat => s.heap.size ≤ q) lw' tl' tt' M' N' s H → va_S (fun q : Nat => s.heap.size ≤ q) s.heap H locs → W p l e room_1 s m #[Value.ref b] below meth c H locs 80 2300 (lw_Z below #[Value.ref b] s) (F0 m 1556 ls [])) (H : Heap) (locs : List Loc) (w : W2 dC dI adC adM ca (fun q : Nat => s.heap.size ≤ q) lw tl tt M N s H) (hS : va_S (fun q : Nat => s.heap.size ≤ q) s.heap H locs) : W p l e room_1 s m #[Value.ref b] below meth c H locs 80 2300 (lw_Z below #[Value.ref b] s) (F0 m 1297 ls []) := by
  obtain ⟨hx, hb, hr, hml, hown, hts0, hX, hbl, hlocks, hgv⟩ := id C0
  have hbA : ¬ (fun q : Nat => s.heap.size ≤ q) b := Nat.not_le.mpr hbl
  obtain ⟨r, M', N', hF, hG, hR⟩ := op_lies tl tt ht hRel (xs (x3 + 1).toNatClampNeg)
  refine lv_aload_n hx hb dL_law_1297 rfl (lv_at hl 1 rfl) ?_
  refine lv_aload_n hx hb dL_law_1298 rfl (lv_at hl 0 rfl) ?_
  refine lv_iload_n hx hb dL_law_1299 rfl (lv_at hl 3 rfl) ?_
  refine lv_iconst hx hb dL_law_1300 ic_1 ?_
  refine lv_iadd hx hb dL_law_1301 ?_
  refine va_sld hx hb hX hbl hbA hS i1 dL_law_1302 ?_
  refine law_Ci C0 (lw' := lw) (tl' := tl) (tt' := tt) (M' := M') tC hl.1 (as := [vI (xs (x3 + 1).toNatClampNeg)]) w hS dL_law_1303 cw_X8_lies ml_L_150 mi_X8_lies se_X8_lies (Nat.zero_le _) (Nat.le_of_ble_eq_true rfl) (m_X8_lies lw tl tt M (xs (x3 + 1).toNatClampNeg) r M' hF) rfl ?_
  intro H locs w hS
  refine lv_aload_n hx hb dL_law_1306 rfl (lv_at hl 2 rfl) ?_
  refine lv_aload_n hx hb dL_law_1307 rfl (lv_at hl 0 rfl) ?_
  refine lv_iload_n hx hb dL_law_1308 rfl (lv_at hl 3 rfl) ?_
  refine lv_iconst hx hb dL_law_1309 ic_1 ?_
  refine lv_iadd hx hb dL_law_1310 ?_
  refine va_sld hx hb hX hbl hbA hS i1 dL_law_1311 ?_
  refine law_Mi C0 (N' := N') tM hl.1 (as := [vI (xs (x3 + 1).toNatClampNeg)]) w hS dL_law_1312 cw_X9_lies ml_L_153 mi_X9_lies se_X9_lies (Nat.le_of_ble_eq_true rfl) (Nat.le_of_ble_eq_true rfl) (m_X9_lies  N (xs (x3 + 1).toNatClampNeg) r N' hG) rfl ?_
  intro H locs w hS
  refine lv_icmp_eq (tgt := 1556) hx hb dL_law_1315 (by decide) (fun _ => ?_) (fun hc => absurd rfl hc)
  exact hnext lw tl tt M' N' hR H locs w hS
set_option maxRecDepth 100000 in
set_option maxHeartbeats 4000000 in
theorem law_case_34 {p : Program} {l : Launch} {e : Env} {s : State} {m : MethodId} {below : List Frame} {meth : Method} {c : Code} {b L : Nat} {xs : Nat → Int32} (C0 : lw_At p s m meth c b L xs) {dC : Nat → ClassId} {dI : Nat → Nat → Nat} {adC adM : Nat → Nat} {ca : Nat → ClassId} {lw : Nat → Option Nat} {tl tt : Option Nat} {M N : Mem} (tC : St adC (fun q : Nat => s.heap.size ≤ q) s s.heap) (tM : St adM (fun q : Nat => s.heap.size ≤ q) s s.heap) {tm : Nat} (ht : tm ≤ 3100) (hRel : Rel tm lw M N) {x3 : Int32} (i1 : vp_in (x3 + 1) L) (i2 : vp_in (x3 + 2) L) (i3 : vp_in (x3 + 3) L) (i4 : vp_in (x3 + 4) L) (i5 : vp_in (x3 + 5) L) {ls : Array Slot} (hl : lv_has ls 4 [(0, .ref b), (1, .ref (adC 0)), (2, .ref (adM 0)), (3, .int x3)])
    (hnext : ∀ (lw' : Nat → Option Nat) (tl' tt' : Option Nat) (M' N' : Mem), Rel (tm + 1) lw' M' N' → ∀ (H : Heap) (locs : List Loc), W2 dC dI adC adM ca (fun q : Nat => s.heap.size ≤ q) lw' tl' tt' M' N' s H → va_S (fun q : Nat => s.heap.size ≤ q) s.heap H locs → W p l e room_1 s m #[Value.ref b] below meth c H locs 80 2300 (lw_Z below #[Value.ref b] s) (F0 m 1556 ls [])) (H : Heap) (locs : List Loc) (w : W2 dC dI adC adM ca (fun q : Nat => s.heap.size ≤ q) lw tl tt M N s H) (hS : va_S (fun q : Nat => s.heap.size ≤ q) s.heap H locs) : W p l e room_1 s m #[Value.ref b] below meth c H locs 80 2300 (lw_Z below #[Value.ref b] s) (F0 m 1320 ls []) := by
  obtain ⟨hx, hb, hr, hml, hown, hts0, hX, hbl, hlocks, hgv⟩ := id C0
  have hbA : ¬ (fun q : Nat => s.heap.size ≤ q) b := Nat.not_le.mpr hbl
  obtain ⟨r, M', N', hF, hG, hR⟩ := op_day tl tt ht hRel (xs (x3 + 1).toNatClampNeg)
  refine lv_aload_n hx hb dL_law_1320 rfl (lv_at hl 1 rfl) ?_
  refine lv_aload_n hx hb dL_law_1321 rfl (lv_at hl 0 rfl) ?_
  refine lv_iload_n hx hb dL_law_1322 rfl (lv_at hl 3 rfl) ?_
  refine lv_iconst hx hb dL_law_1323 ic_1 ?_
  refine lv_iadd hx hb dL_law_1324 ?_
  refine va_sld hx hb hX hbl hbA hS i1 dL_law_1325 ?_
  refine law_Ci C0 (lw' := lw) (tl' := tl) (tt' := tt) (M' := M') tC hl.1 (as := [vI (xs (x3 + 1).toNatClampNeg)]) w hS dL_law_1326 cw_X8_day ml_L_154 mi_X8_day se_X8_day (Nat.zero_le _) (Nat.le_of_ble_eq_true rfl) (m_X8_day lw tl tt M (xs (x3 + 1).toNatClampNeg) r M' hF) rfl ?_
  intro H locs w hS
  refine lv_aload_n hx hb dL_law_1329 rfl (lv_at hl 2 rfl) ?_
  refine lv_aload_n hx hb dL_law_1330 rfl (lv_at hl 0 rfl) ?_
  refine lv_iload_n hx hb dL_law_1331 rfl (lv_at hl 3 rfl) ?_
  refine lv_iconst hx hb dL_law_1332 ic_1 ?_
  refine lv_iadd hx hb dL_law_1333 ?_
  refine va_sld hx hb hX hbl hbA hS i1 dL_law_1334 ?_
  refine law_Mi C0 (N' := N') tM hl.1 (as := [vI (xs (x3 + 1).toNatClampNeg)]) w hS dL_law_1335 cw_X9_day ml_L_157 mi_X9_day se_X9_day (Nat.le_of_ble_eq_true rfl) (Nat.le_of_ble_eq_true rfl) (m_X9_day  N (xs (x3 + 1).toNatClampNeg) r N' hG) rfl ?_
  intro H locs w hS
  refine lv_icmp_eq (tgt := 1556) hx hb dL_law_1338 (by decide) (fun _ => ?_) (fun hc => absurd rfl hc)
  exact hnext lw tl tt M' N' hR H locs w hS
set_option maxRecDepth 100000 in
set_option maxHeartbeats 4000000 in
theorem law_case_35 {p : Program} {l : Launch} {e : Env} {s : State} {m : MethodId} {below : List Frame} {meth : Method} {c : Code} {b L : Nat} {xs : Nat → Int32} (C0 : lw_At p s m meth c b L xs) {dC : Nat → ClassId} {dI : Nat → Nat → Nat} {adC adM : Nat → Nat} {ca : Nat → ClassId} {lw : Nat → Option Nat} {tl tt : Option Nat} {M N : Mem} (tC : St adC (fun q : Nat => s.heap.size ≤ q) s s.heap) (tM : St adM (fun q : Nat => s.heap.size ≤ q) s s.heap) {tm : Nat} (ht : tm ≤ 3100) (hRel : Rel tm lw M N) {x3 : Int32} (i1 : vp_in (x3 + 1) L) (i2 : vp_in (x3 + 2) L) (i3 : vp_in (x3 + 3) L) (i4 : vp_in (x3 + 4) L) (i5 : vp_in (x3 + 5) L) {ls : Array Slot} (hl : lv_has ls 4 [(0, .ref b), (1, .ref (adC 0)), (2, .ref (adM 0)), (3, .int x3)])
    (hnext : ∀ (lw' : Nat → Option Nat) (tl' tt' : Option Nat) (M' N' : Mem), Rel (tm + 1) lw' M' N' → ∀ (H : Heap) (locs : List Loc), W2 dC dI adC adM ca (fun q : Nat => s.heap.size ≤ q) lw' tl' tt' M' N' s H → va_S (fun q : Nat => s.heap.size ≤ q) s.heap H locs → W p l e room_1 s m #[Value.ref b] below meth c H locs 80 2300 (lw_Z below #[Value.ref b] s) (F0 m 1556 ls [])) (H : Heap) (locs : List Loc) (w : W2 dC dI adC adM ca (fun q : Nat => s.heap.size ≤ q) lw tl tt M N s H) (hS : va_S (fun q : Nat => s.heap.size ≤ q) s.heap H locs) : W p l e room_1 s m #[Value.ref b] below meth c H locs 80 2300 (lw_Z below #[Value.ref b] s) (F0 m 1343 ls []) := by
  obtain ⟨hx, hb, hr, hml, hown, hts0, hX, hbl, hlocks, hgv⟩ := id C0
  have hbA : ¬ (fun q : Nat => s.heap.size ≤ q) b := Nat.not_le.mpr hbl
  obtain ⟨r, M', N', hF, hG, hR⟩ := op_grounds tl tt ht hRel (xs (x3 + 1).toNatClampNeg)
  refine lv_aload_n hx hb dL_law_1343 rfl (lv_at hl 1 rfl) ?_
  refine lv_aload_n hx hb dL_law_1344 rfl (lv_at hl 0 rfl) ?_
  refine lv_iload_n hx hb dL_law_1345 rfl (lv_at hl 3 rfl) ?_
  refine lv_iconst hx hb dL_law_1346 ic_1 ?_
  refine lv_iadd hx hb dL_law_1347 ?_
  refine va_sld hx hb hX hbl hbA hS i1 dL_law_1348 ?_
  refine law_Ci C0 (lw' := lw) (tl' := tl) (tt' := tt) (M' := M') tC hl.1 (as := [vI (xs (x3 + 1).toNatClampNeg)]) w hS dL_law_1349 cw_X8_grounds ml_L_158 mi_X8_grounds se_X8_grounds (Nat.zero_le _) (Nat.le_of_ble_eq_true rfl) (m_X8_grounds lw tl tt M (xs (x3 + 1).toNatClampNeg) r M' hF) rfl ?_
  intro H locs w hS
  refine lv_aload_n hx hb dL_law_1352 rfl (lv_at hl 2 rfl) ?_
  refine lv_aload_n hx hb dL_law_1353 rfl (lv_at hl 0 rfl) ?_
  refine lv_iload_n hx hb dL_law_1354 rfl (lv_at hl 3 rfl) ?_
  refine lv_iconst hx hb dL_law_1355 ic_1 ?_
  refine lv_iadd hx hb dL_law_1356 ?_
  refine va_sld hx hb hX hbl hbA hS i1 dL_law_1357 ?_
  refine law_Mi C0 (N' := N') tM hl.1 (as := [vI (xs (x3 + 1).toNatClampNeg)]) w hS dL_law_1358 cw_X9_grounds ml_L_161 mi_X9_grounds se_X9_grounds (Nat.le_of_ble_eq_true rfl) (Nat.le_of_ble_eq_true rfl) (m_X9_grounds  N (xs (x3 + 1).toNatClampNeg) r N' hG) rfl ?_
  intro H locs w hS
  refine lv_icmp_eq (tgt := 1556) hx hb dL_law_1361 (by decide) (fun _ => ?_) (fun hc => absurd rfl hc)
  exact hnext lw tl tt M' N' hR H locs w hS
set_option maxRecDepth 100000 in
set_option maxHeartbeats 4000000 in
theorem law_case_36 {p : Program} {l : Launch} {e : Env} {s : State} {m : MethodId} {below : List Frame} {meth : Method} {c : Code} {b L : Nat} {xs : Nat → Int32} (C0 : lw_At p s m meth c b L xs) {dC : Nat → ClassId} {dI : Nat → Nat → Nat} {adC adM : Nat → Nat} {ca : Nat → ClassId} {lw : Nat → Option Nat} {tl tt : Option Nat} {M N : Mem} (tC : St adC (fun q : Nat => s.heap.size ≤ q) s s.heap) (tM : St adM (fun q : Nat => s.heap.size ≤ q) s s.heap) {tm : Nat} (ht : tm ≤ 3100) (hRel : Rel tm lw M N) {x3 : Int32} (i1 : vp_in (x3 + 1) L) (i2 : vp_in (x3 + 2) L) (i3 : vp_in (x3 + 3) L) (i4 : vp_in (x3 + 4) L) (i5 : vp_in (x3 + 5) L) {ls : Array Slot} (hl : lv_has ls 4 [(0, .ref b), (1, .ref (adC 0)), (2, .ref (adM 0)), (3, .int x3)])
    (hnext : ∀ (lw' : Nat → Option Nat) (tl' tt' : Option Nat) (M' N' : Mem), Rel (tm + 1) lw' M' N' → ∀ (H : Heap) (locs : List Loc), W2 dC dI adC adM ca (fun q : Nat => s.heap.size ≤ q) lw' tl' tt' M' N' s H → va_S (fun q : Nat => s.heap.size ≤ q) s.heap H locs → W p l e room_1 s m #[Value.ref b] below meth c H locs 80 2300 (lw_Z below #[Value.ref b] s) (F0 m 1556 ls [])) (H : Heap) (locs : List Loc) (w : W2 dC dI adC adM ca (fun q : Nat => s.heap.size ≤ q) lw tl tt M N s H) (hS : va_S (fun q : Nat => s.heap.size ≤ q) s.heap H locs) : W p l e room_1 s m #[Value.ref b] below meth c H locs 80 2300 (lw_Z below #[Value.ref b] s) (F0 m 1366 ls []) := by
  obtain ⟨hx, hb, hr, hml, hown, hts0, hX, hbl, hlocks, hgv⟩ := id C0
  have hbA : ¬ (fun q : Nat => s.heap.size ≤ q) b := Nat.not_le.mpr hbl
  obtain ⟨r, M', N', hF, hG, hR⟩ := op_odds tl tt ht hRel (xs (x3 + 1).toNatClampNeg) (xs (x3 + 2).toNatClampNeg)
  refine lv_aload_n hx hb dL_law_1366 rfl (lv_at hl 1 rfl) ?_
  refine lv_aload_n hx hb dL_law_1367 rfl (lv_at hl 0 rfl) ?_
  refine lv_iload_n hx hb dL_law_1368 rfl (lv_at hl 3 rfl) ?_
  refine lv_iconst hx hb dL_law_1369 ic_1 ?_
  refine lv_iadd hx hb dL_law_1370 ?_
  refine va_sld hx hb hX hbl hbA hS i1 dL_law_1371 ?_
  refine lv_aload_n hx hb dL_law_1372 rfl (lv_at hl 0 rfl) ?_
  refine lv_iload_n hx hb dL_law_1373 rfl (lv_at hl 3 rfl) ?_
  refine lv_iconst hx hb dL_law_1374 ic_2 ?_
  refine lv_iadd hx hb dL_law_1375 ?_
  refine va_sld hx hb hX hbl hbA hS i2 dL_law_1376 ?_
  refine law_Ci C0 (lw' := lw) (tl' := tl) (tt' := tt) (M' := M') tC hl.1 (as := [vI (xs (x3 + 1).toNatClampNeg), vI (xs (x3 + 2).toNatClampNeg)]) w hS dL_law_1377 cw_X8_odds ml_L_162 mi_X8_odds se_X8_odds (Nat.zero_le _) (Nat.le_of_ble_eq_true rfl) (m_X8_odds lw tl tt M (xs (x3 + 1).toNatClampNeg) (xs (x3 + 2).toNatClampNeg) r M' hF) rfl ?_
  intro H locs w hS
  refine lv_aload_n hx hb dL_law_1380 rfl (lv_at hl 2 rfl) ?_
  refine lv_aload_n hx hb dL_law_1381 rfl (lv_at hl 0 rfl) ?_
  refine lv_iload_n hx hb dL_law_1382 rfl (lv_at hl 3 rfl) ?_
  refine lv_iconst hx hb dL_law_1383 ic_1 ?_
  refine lv_iadd hx hb dL_law_1384 ?_
  refine va_sld hx hb hX hbl hbA hS i1 dL_law_1385 ?_
  refine lv_aload_n hx hb dL_law_1386 rfl (lv_at hl 0 rfl) ?_
  refine lv_iload_n hx hb dL_law_1387 rfl (lv_at hl 3 rfl) ?_
  refine lv_iconst hx hb dL_law_1388 ic_2 ?_
  refine lv_iadd hx hb dL_law_1389 ?_
  refine va_sld hx hb hX hbl hbA hS i2 dL_law_1390 ?_
  refine law_Mi C0 (N' := N') tM hl.1 (as := [vI (xs (x3 + 1).toNatClampNeg), vI (xs (x3 + 2).toNatClampNeg)]) w hS dL_law_1391 cw_X9_odds ml_L_165 mi_X9_odds se_X9_odds (Nat.le_of_ble_eq_true rfl) (Nat.le_of_ble_eq_true rfl) (m_X9_odds  N (xs (x3 + 1).toNatClampNeg) (xs (x3 + 2).toNatClampNeg) r N' hG) rfl ?_
  intro H locs w hS
  refine lv_icmp_eq (tgt := 1556) hx hb dL_law_1394 (by decide) (fun _ => ?_) (fun hc => absurd rfl hc)
  exact hnext lw tl tt M' N' hR H locs w hS
set_option maxRecDepth 100000 in
set_option maxHeartbeats 4000000 in
theorem law_case_37 {p : Program} {l : Launch} {e : Env} {s : State} {m : MethodId} {below : List Frame} {meth : Method} {c : Code} {b L : Nat} {xs : Nat → Int32} (C0 : lw_At p s m meth c b L xs) {dC : Nat → ClassId} {dI : Nat → Nat → Nat} {adC adM : Nat → Nat} {ca : Nat → ClassId} {lw : Nat → Option Nat} {tl tt : Option Nat} {M N : Mem} (tC : St adC (fun q : Nat => s.heap.size ≤ q) s s.heap) (tM : St adM (fun q : Nat => s.heap.size ≤ q) s s.heap) {tm : Nat} (ht : tm ≤ 3100) (hRel : Rel tm lw M N) {x3 : Int32} (i1 : vp_in (x3 + 1) L) (i2 : vp_in (x3 + 2) L) (i3 : vp_in (x3 + 3) L) (i4 : vp_in (x3 + 4) L) (i5 : vp_in (x3 + 5) L) {ls : Array Slot} (hl : lv_has ls 4 [(0, .ref b), (1, .ref (adC 0)), (2, .ref (adM 0)), (3, .int x3)])
    (hnext : ∀ (lw' : Nat → Option Nat) (tl' tt' : Option Nat) (M' N' : Mem), Rel (tm + 1) lw' M' N' → ∀ (H : Heap) (locs : List Loc), W2 dC dI adC adM ca (fun q : Nat => s.heap.size ≤ q) lw' tl' tt' M' N' s H → va_S (fun q : Nat => s.heap.size ≤ q) s.heap H locs → W p l e room_1 s m #[Value.ref b] below meth c H locs 80 2300 (lw_Z below #[Value.ref b] s) (F0 m 1556 ls [])) (H : Heap) (locs : List Loc) (w : W2 dC dI adC adM ca (fun q : Nat => s.heap.size ≤ q) lw tl tt M N s H) (hS : va_S (fun q : Nat => s.heap.size ≤ q) s.heap H locs) : W p l e room_1 s m #[Value.ref b] below meth c H locs 80 2300 (lw_Z below #[Value.ref b] s) (F0 m 1399 ls []) := by
  obtain ⟨hx, hb, hr, hml, hown, hts0, hX, hbl, hlocks, hgv⟩ := id C0
  have hbA : ¬ (fun q : Nat => s.heap.size ≤ q) b := Nat.not_le.mpr hbl
  obtain ⟨r, M', N', hF, hG, hR⟩ := op_gone tl tt ht hRel (xs (x3 + 1).toNatClampNeg) (xs (x3 + 2).toNatClampNeg) (xs (x3 + 3).toNatClampNeg)
  refine lv_aload_n hx hb dL_law_1399 rfl (lv_at hl 1 rfl) ?_
  refine lv_aload_n hx hb dL_law_1400 rfl (lv_at hl 0 rfl) ?_
  refine lv_iload_n hx hb dL_law_1401 rfl (lv_at hl 3 rfl) ?_
  refine lv_iconst hx hb dL_law_1402 ic_1 ?_
  refine lv_iadd hx hb dL_law_1403 ?_
  refine va_sld hx hb hX hbl hbA hS i1 dL_law_1404 ?_
  refine lv_aload_n hx hb dL_law_1405 rfl (lv_at hl 0 rfl) ?_
  refine lv_iload_n hx hb dL_law_1406 rfl (lv_at hl 3 rfl) ?_
  refine lv_iconst hx hb dL_law_1407 ic_2 ?_
  refine lv_iadd hx hb dL_law_1408 ?_
  refine va_sld hx hb hX hbl hbA hS i2 dL_law_1409 ?_
  refine lv_aload_n hx hb dL_law_1410 rfl (lv_at hl 0 rfl) ?_
  refine lv_iload_n hx hb dL_law_1411 rfl (lv_at hl 3 rfl) ?_
  refine lv_iconst hx hb dL_law_1412 ic_3 ?_
  refine lv_iadd hx hb dL_law_1413 ?_
  refine va_sld hx hb hX hbl hbA hS i3 dL_law_1414 ?_
  refine law_Ci C0 (lw' := lw) (tl' := tl) (tt' := tt) (M' := M') tC hl.1 (as := [vI (xs (x3 + 1).toNatClampNeg), vI (xs (x3 + 2).toNatClampNeg), vI (xs (x3 + 3).toNatClampNeg)]) w hS dL_law_1415 cw_X8_gone ml_L_166 mi_X8_gone se_X8_gone (Nat.zero_le _) (Nat.le_of_ble_eq_true rfl) (m_X8_gone lw tl tt M (xs (x3 + 1).toNatClampNeg) (xs (x3 + 2).toNatClampNeg) (xs (x3 + 3).toNatClampNeg) r M' hF) rfl ?_
  intro H locs w hS
  refine lv_aload_n hx hb dL_law_1418 rfl (lv_at hl 2 rfl) ?_
  refine lv_aload_n hx hb dL_law_1419 rfl (lv_at hl 0 rfl) ?_
  refine lv_iload_n hx hb dL_law_1420 rfl (lv_at hl 3 rfl) ?_
  refine lv_iconst hx hb dL_law_1421 ic_1 ?_
  refine lv_iadd hx hb dL_law_1422 ?_
  refine va_sld hx hb hX hbl hbA hS i1 dL_law_1423 ?_
  refine lv_aload_n hx hb dL_law_1424 rfl (lv_at hl 0 rfl) ?_
  refine lv_iload_n hx hb dL_law_1425 rfl (lv_at hl 3 rfl) ?_
  refine lv_iconst hx hb dL_law_1426 ic_2 ?_
  refine lv_iadd hx hb dL_law_1427 ?_
  refine va_sld hx hb hX hbl hbA hS i2 dL_law_1428 ?_
  refine lv_aload_n hx hb dL_law_1429 rfl (lv_at hl 0 rfl) ?_
  refine lv_iload_n hx hb dL_law_1430 rfl (lv_at hl 3 rfl) ?_
  refine lv_iconst hx hb dL_law_1431 ic_3 ?_
  refine lv_iadd hx hb dL_law_1432 ?_
  refine va_sld hx hb hX hbl hbA hS i3 dL_law_1433 ?_
  refine law_Mi C0 (N' := N') tM hl.1 (as := [vI (xs (x3 + 1).toNatClampNeg), vI (xs (x3 + 2).toNatClampNeg), vI (xs (x3 + 3).toNatClampNeg)]) w hS dL_law_1434 cw_X9_gone ml_L_169 mi_X9_gone se_X9_gone (Nat.le_of_ble_eq_true rfl) (Nat.le_of_ble_eq_true rfl) (m_X9_gone  N (xs (x3 + 1).toNatClampNeg) (xs (x3 + 2).toNatClampNeg) (xs (x3 + 3).toNatClampNeg) r N' hG) rfl ?_
  intro H locs w hS
  refine lv_icmp_eq (tgt := 1556) hx hb dL_law_1437 (by decide) (fun _ => ?_) (fun hc => absurd rfl hc)
  exact hnext lw tl tt M' N' hR H locs w hS
set_option maxRecDepth 100000 in
set_option maxHeartbeats 4000000 in
theorem law_case_38 {p : Program} {l : Launch} {e : Env} {s : State} {m : MethodId} {below : List Frame} {meth : Method} {c : Code} {b L : Nat} {xs : Nat → Int32} (C0 : lw_At p s m meth c b L xs) {dC : Nat → ClassId} {dI : Nat → Nat → Nat} {adC adM : Nat → Nat} {ca : Nat → ClassId} {lw : Nat → Option Nat} {tl tt : Option Nat} {M N : Mem} (tC : St adC (fun q : Nat => s.heap.size ≤ q) s s.heap) (tM : St adM (fun q : Nat => s.heap.size ≤ q) s s.heap) {tm : Nat} (ht : tm ≤ 3100) (hRel : Rel tm lw M N) {x3 : Int32} (i1 : vp_in (x3 + 1) L) (i2 : vp_in (x3 + 2) L) (i3 : vp_in (x3 + 3) L) (i4 : vp_in (x3 + 4) L) (i5 : vp_in (x3 + 5) L) {ls : Array Slot} (hl : lv_has ls 4 [(0, .ref b), (1, .ref (adC 0)), (2, .ref (adM 0)), (3, .int x3)])
    (hnext : ∀ (lw' : Nat → Option Nat) (tl' tt' : Option Nat) (M' N' : Mem), Rel (tm + 1) lw' M' N' → ∀ (H : Heap) (locs : List Loc), W2 dC dI adC adM ca (fun q : Nat => s.heap.size ≤ q) lw' tl' tt' M' N' s H → va_S (fun q : Nat => s.heap.size ≤ q) s.heap H locs → W p l e room_1 s m #[Value.ref b] below meth c H locs 80 2300 (lw_Z below #[Value.ref b] s) (F0 m 1556 ls [])) (H : Heap) (locs : List Loc) (w : W2 dC dI adC adM ca (fun q : Nat => s.heap.size ≤ q) lw tl tt M N s H) (hS : va_S (fun q : Nat => s.heap.size ≤ q) s.heap H locs) : W p l e room_1 s m #[Value.ref b] below meth c H locs 80 2300 (lw_Z below #[Value.ref b] s) (F0 m 1442 ls []) := by
  obtain ⟨hx, hb, hr, hml, hown, hts0, hX, hbl, hlocks, hgv⟩ := id C0
  have hbA : ¬ (fun q : Nat => s.heap.size ≤ q) b := Nat.not_le.mpr hbl
  obtain ⟨r, hF, hG, hR⟩ := op_asked tl tt ht hRel
  refine lv_aload_n hx hb dL_law_1442 rfl (lv_at hl 1 rfl) ?_
  refine law_Ci C0 (lw' := lw) (tl' := tl) (tt' := tt) (M' := M) tC hl.1 (as := []) w hS dL_law_1443 cw_X8_asked ml_L_170 mi_X8_asked se_X8_asked (Nat.zero_le _) (Nat.le_of_ble_eq_true rfl) (m_X8_asked lw tl tt M  r hF) rfl ?_
  intro H locs w hS
  refine lv_aload_n hx hb dL_law_1446 rfl (lv_at hl 2 rfl) ?_
  refine law_Mi C0 (N' := N) tM hl.1 (as := []) w hS dL_law_1447 cw_X9_asked ml_L_174 mi_X9_asked se_X9_asked (Nat.le_of_ble_eq_true rfl) (Nat.le_of_ble_eq_true rfl) (m_X9_asked  N  r hG) rfl ?_
  intro H locs w hS
  refine lv_icmp_eq (tgt := 1556) hx hb dL_law_1450 (by decide) (fun _ => ?_) (fun hc => absurd rfl hc)
  exact hnext lw tl tt M N hR H locs w hS
set_option maxRecDepth 100000 in
set_option maxHeartbeats 4000000 in
theorem law_case_39 {p : Program} {l : Launch} {e : Env} {s : State} {m : MethodId} {below : List Frame} {meth : Method} {c : Code} {b L : Nat} {xs : Nat → Int32} (C0 : lw_At p s m meth c b L xs) {dC : Nat → ClassId} {dI : Nat → Nat → Nat} {adC adM : Nat → Nat} {ca : Nat → ClassId} {lw : Nat → Option Nat} {tl tt : Option Nat} {M N : Mem} (tC : St adC (fun q : Nat => s.heap.size ≤ q) s s.heap) (tM : St adM (fun q : Nat => s.heap.size ≤ q) s s.heap) {tm : Nat} (ht : tm ≤ 3100) (hRel : Rel tm lw M N) {x3 : Int32} (i1 : vp_in (x3 + 1) L) (i2 : vp_in (x3 + 2) L) (i3 : vp_in (x3 + 3) L) (i4 : vp_in (x3 + 4) L) (i5 : vp_in (x3 + 5) L) {ls : Array Slot} (hl : lv_has ls 4 [(0, .ref b), (1, .ref (adC 0)), (2, .ref (adM 0)), (3, .int x3)])
    (hnext : ∀ (lw' : Nat → Option Nat) (tl' tt' : Option Nat) (M' N' : Mem), Rel (tm + 1) lw' M' N' → ∀ (H : Heap) (locs : List Loc), W2 dC dI adC adM ca (fun q : Nat => s.heap.size ≤ q) lw' tl' tt' M' N' s H → va_S (fun q : Nat => s.heap.size ≤ q) s.heap H locs → W p l e room_1 s m #[Value.ref b] below meth c H locs 80 2300 (lw_Z below #[Value.ref b] s) (F0 m 1556 ls [])) (H : Heap) (locs : List Loc) (w : W2 dC dI adC adM ca (fun q : Nat => s.heap.size ≤ q) lw tl tt M N s H) (hS : va_S (fun q : Nat => s.heap.size ≤ q) s.heap H locs) : W p l e room_1 s m #[Value.ref b] below meth c H locs 80 2300 (lw_Z below #[Value.ref b] s) (F0 m 1455 ls []) := by
  obtain ⟨hx, hb, hr, hml, hown, hts0, hX, hbl, hlocks, hgv⟩ := id C0
  have hbA : ¬ (fun q : Nat => s.heap.size ≤ q) b := Nat.not_le.mpr hbl
  obtain ⟨r, hF, hG, hR⟩ := op_upper tl tt ht hRel
  refine lv_aload_n hx hb dL_law_1455 rfl (lv_at hl 1 rfl) ?_
  refine law_Cl C0 (lw' := lw) (tl' := tl) (tt' := tt) (M' := M) tC hl.1 (as := []) w hS dL_law_1456 cw_X8_upper ml_L_175 mi_X8_upper se_X8_upper (Nat.zero_le _) (Nat.le_of_ble_eq_true rfl) (m_X8_upper lw tl tt M  r hF) rfl ?_
  intro H locs w hS
  refine lv_aload_n hx hb dL_law_1459 rfl (lv_at hl 2 rfl) ?_
  refine law_Ml C0 (N' := N) tM hl.1 (as := []) w hS dL_law_1460 cw_X9_upper ml_L_179 mi_X9_upper se_X9_upper (Nat.le_of_ble_eq_true rfl) (Nat.le_of_ble_eq_true rfl) (m_X9_upper  N  r hG) rfl ?_
  intro H locs w hS
  refine W.lcmp hx hb dL_law_1463 ?_
  rw [lg_cmp_self]
  refine lv_if_eq (tgt := 1556) hx hb dL_law_1464 (by decide) (fun _ => ?_) (fun hc => absurd rfl hc)
  exact hnext lw tl tt M N hR H locs w hS
set_option maxRecDepth 100000 in
set_option maxHeartbeats 4000000 in
theorem law_case_40 {p : Program} {l : Launch} {e : Env} {s : State} {m : MethodId} {below : List Frame} {meth : Method} {c : Code} {b L : Nat} {xs : Nat → Int32} (C0 : lw_At p s m meth c b L xs) {dC : Nat → ClassId} {dI : Nat → Nat → Nat} {adC adM : Nat → Nat} {ca : Nat → ClassId} {lw : Nat → Option Nat} {tl tt : Option Nat} {M N : Mem} (tC : St adC (fun q : Nat => s.heap.size ≤ q) s s.heap) (tM : St adM (fun q : Nat => s.heap.size ≤ q) s s.heap) {tm : Nat} (ht : tm ≤ 3100) (hRel : Rel tm lw M N) {x3 : Int32} (i1 : vp_in (x3 + 1) L) (i2 : vp_in (x3 + 2) L) (i3 : vp_in (x3 + 3) L) (i4 : vp_in (x3 + 4) L) (i5 : vp_in (x3 + 5) L) {ls : Array Slot} (hl : lv_has ls 4 [(0, .ref b), (1, .ref (adC 0)), (2, .ref (adM 0)), (3, .int x3)])
    (hnext : ∀ (lw' : Nat → Option Nat) (tl' tt' : Option Nat) (M' N' : Mem), Rel (tm + 1) lw' M' N' → ∀ (H : Heap) (locs : List Loc), W2 dC dI adC adM ca (fun q : Nat => s.heap.size ≤ q) lw' tl' tt' M' N' s H → va_S (fun q : Nat => s.heap.size ≤ q) s.heap H locs → W p l e room_1 s m #[Value.ref b] below meth c H locs 80 2300 (lw_Z below #[Value.ref b] s) (F0 m 1556 ls [])) (H : Heap) (locs : List Loc) (w : W2 dC dI adC adM ca (fun q : Nat => s.heap.size ≤ q) lw tl tt M N s H) (hS : va_S (fun q : Nat => s.heap.size ≤ q) s.heap H locs) : W p l e room_1 s m #[Value.ref b] below meth c H locs 80 2300 (lw_Z below #[Value.ref b] s) (F0 m 1469 ls []) := by
  obtain ⟨hx, hb, hr, hml, hown, hts0, hX, hbl, hlocks, hgv⟩ := id C0
  have hbA : ¬ (fun q : Nat => s.heap.size ≤ q) b := Nat.not_le.mpr hbl
  obtain ⟨r, hF, hG, hR⟩ := op_lower tl tt ht hRel
  refine lv_aload_n hx hb dL_law_1469 rfl (lv_at hl 1 rfl) ?_
  refine law_Cl C0 (lw' := lw) (tl' := tl) (tt' := tt) (M' := M) tC hl.1 (as := []) w hS dL_law_1470 cw_X8_lower ml_L_180 mi_X8_lower se_X8_lower (Nat.zero_le _) (Nat.le_of_ble_eq_true rfl) (m_X8_lower lw tl tt M  r hF) rfl ?_
  intro H locs w hS
  refine lv_aload_n hx hb dL_law_1473 rfl (lv_at hl 2 rfl) ?_
  refine law_Ml C0 (N' := N) tM hl.1 (as := []) w hS dL_law_1474 cw_X9_lower ml_L_183 mi_X9_lower se_X9_lower (Nat.le_of_ble_eq_true rfl) (Nat.le_of_ble_eq_true rfl) (m_X9_lower  N  r hG) rfl ?_
  intro H locs w hS
  refine W.lcmp hx hb dL_law_1477 ?_
  rw [lg_cmp_self]
  refine lv_if_eq (tgt := 1556) hx hb dL_law_1478 (by decide) (fun _ => ?_) (fun hc => absurd rfl hc)
  exact hnext lw tl tt M N hR H locs w hS
set_option maxRecDepth 100000 in
set_option maxHeartbeats 4000000 in
theorem law_case_41 {p : Program} {l : Launch} {e : Env} {s : State} {m : MethodId} {below : List Frame} {meth : Method} {c : Code} {b L : Nat} {xs : Nat → Int32} (C0 : lw_At p s m meth c b L xs) {dC : Nat → ClassId} {dI : Nat → Nat → Nat} {adC adM : Nat → Nat} {ca : Nat → ClassId} {lw : Nat → Option Nat} {tl tt : Option Nat} {M N : Mem} (tC : St adC (fun q : Nat => s.heap.size ≤ q) s s.heap) (tM : St adM (fun q : Nat => s.heap.size ≤ q) s s.heap) {tm : Nat} (ht : tm ≤ 3100) (hRel : Rel tm lw M N) {x3 : Int32} (i1 : vp_in (x3 + 1) L) (i2 : vp_in (x3 + 2) L) (i3 : vp_in (x3 + 3) L) (i4 : vp_in (x3 + 4) L) (i5 : vp_in (x3 + 5) L) {ls : Array Slot} (hl : lv_has ls 4 [(0, .ref b), (1, .ref (adC 0)), (2, .ref (adM 0)), (3, .int x3)])
    (hnext : ∀ (lw' : Nat → Option Nat) (tl' tt' : Option Nat) (M' N' : Mem), Rel (tm + 1) lw' M' N' → ∀ (H : Heap) (locs : List Loc), W2 dC dI adC adM ca (fun q : Nat => s.heap.size ≤ q) lw' tl' tt' M' N' s H → va_S (fun q : Nat => s.heap.size ≤ q) s.heap H locs → W p l e room_1 s m #[Value.ref b] below meth c H locs 80 2300 (lw_Z below #[Value.ref b] s) (F0 m 1556 ls [])) (H : Heap) (locs : List Loc) (w : W2 dC dI adC adM ca (fun q : Nat => s.heap.size ≤ q) lw tl tt M N s H) (hS : va_S (fun q : Nat => s.heap.size ≤ q) s.heap H locs) : W p l e room_1 s m #[Value.ref b] below meth c H locs 80 2300 (lw_Z below #[Value.ref b] s) (F0 m 1483 ls []) := by
  obtain ⟨hx, hb, hr, hml, hown, hts0, hX, hbl, hlocks, hgv⟩ := id C0
  have hbA : ¬ (fun q : Nat => s.heap.size ≤ q) b := Nat.not_le.mpr hbl
  obtain ⟨r, N', hF, hG, hR⟩ := op_count tl tt ht hRel (xs (x3 + 1).toNatClampNeg)
  refine lv_aload_n hx hb dL_law_1483 rfl (lv_at hl 1 rfl) ?_
  refine lv_aload_n hx hb dL_law_1484 rfl (lv_at hl 0 rfl) ?_
  refine lv_iload_n hx hb dL_law_1485 rfl (lv_at hl 3 rfl) ?_
  refine lv_iconst hx hb dL_law_1486 ic_1 ?_
  refine lv_iadd hx hb dL_law_1487 ?_
  refine va_sld hx hb hX hbl hbA hS i1 dL_law_1488 ?_
  refine law_Ci C0 (lw' := lw) (tl' := tl) (tt' := tt) (M' := M) tC hl.1 (as := [vI (xs (x3 + 1).toNatClampNeg)]) w hS dL_law_1489 cw_X8_count ml_L_184 mi_X8_count se_X8_count (Nat.zero_le _) (Nat.le_of_ble_eq_true rfl) (m_X8_count tl tt lw M (xs (x3 + 1).toNatClampNeg) r hF) rfl ?_
  intro H locs w hS
  refine lv_aload_n hx hb dL_law_1492 rfl (lv_at hl 2 rfl) ?_
  refine lv_aload_n hx hb dL_law_1493 rfl (lv_at hl 0 rfl) ?_
  refine lv_iload_n hx hb dL_law_1494 rfl (lv_at hl 3 rfl) ?_
  refine lv_iconst hx hb dL_law_1495 ic_1 ?_
  refine lv_iadd hx hb dL_law_1496 ?_
  refine va_sld hx hb hX hbl hbA hS i1 dL_law_1497 ?_
  refine law_Mi C0 (N' := N') tM hl.1 (as := [vI (xs (x3 + 1).toNatClampNeg)]) w hS dL_law_1498 cw_X9_count ml_L_187 mi_X9_count se_X9_count (Nat.le_of_ble_eq_true rfl) (Nat.le_of_ble_eq_true rfl) (m_X9_count  N (xs (x3 + 1).toNatClampNeg) r N' hG) rfl ?_
  intro H locs w hS
  refine lv_icmp_eq (tgt := 1556) hx hb dL_law_1501 (by decide) (fun _ => ?_) (fun hc => absurd rfl hc)
  exact hnext lw tl tt M N' hR H locs w hS
set_option maxRecDepth 100000 in
set_option maxHeartbeats 4000000 in
theorem law_case_42 {p : Program} {l : Launch} {e : Env} {s : State} {m : MethodId} {below : List Frame} {meth : Method} {c : Code} {b L : Nat} {xs : Nat → Int32} (C0 : lw_At p s m meth c b L xs) {dC : Nat → ClassId} {dI : Nat → Nat → Nat} {adC adM : Nat → Nat} {ca : Nat → ClassId} {lw : Nat → Option Nat} {tl tt : Option Nat} {M N : Mem} (tC : St adC (fun q : Nat => s.heap.size ≤ q) s s.heap) (tM : St adM (fun q : Nat => s.heap.size ≤ q) s s.heap) {tm : Nat} (ht : tm ≤ 3100) (hRel : Rel tm lw M N) {x3 : Int32} (i1 : vp_in (x3 + 1) L) (i2 : vp_in (x3 + 2) L) (i3 : vp_in (x3 + 3) L) (i4 : vp_in (x3 + 4) L) (i5 : vp_in (x3 + 5) L) {ls : Array Slot} (hl : lv_has ls 4 [(0, .ref b), (1, .ref (adC 0)), (2, .ref (adM 0)), (3, .int x3)])
    (hnext : ∀ (lw' : Nat → Option Nat) (tl' tt' : Option Nat) (M' N' : Mem), Rel (tm + 1) lw' M' N' → ∀ (H : Heap) (locs : List Loc), W2 dC dI adC adM ca (fun q : Nat => s.heap.size ≤ q) lw' tl' tt' M' N' s H → va_S (fun q : Nat => s.heap.size ≤ q) s.heap H locs → W p l e room_1 s m #[Value.ref b] below meth c H locs 80 2300 (lw_Z below #[Value.ref b] s) (F0 m 1556 ls [])) (H : Heap) (locs : List Loc) (w : W2 dC dI adC adM ca (fun q : Nat => s.heap.size ≤ q) lw tl tt M N s H) (hS : va_S (fun q : Nat => s.heap.size ≤ q) s.heap H locs) : W p l e room_1 s m #[Value.ref b] below meth c H locs 80 2300 (lw_Z below #[Value.ref b] s) (F0 m 1506 ls []) := by
  obtain ⟨hx, hb, hr, hml, hown, hts0, hX, hbl, hlocks, hgv⟩ := id C0
  have hbA : ¬ (fun q : Nat => s.heap.size ≤ q) b := Nat.not_le.mpr hbl
  obtain ⟨r, hF, hG, hR⟩ := op_finding tl tt ht hRel
  refine lv_aload_n hx hb dL_law_1506 rfl (lv_at hl 1 rfl) ?_
  refine law_Ci C0 (lw' := lw) (tl' := tl) (tt' := tt) (M' := M) tC hl.1 (as := []) w hS dL_law_1507 cw_X8_finding ml_L_188 mi_X8_finding se_X8_finding (Nat.zero_le _) (Nat.le_of_ble_eq_true rfl) (m_X8_finding lw tl tt M  r hF) rfl ?_
  intro H locs w hS
  refine lv_aload_n hx hb dL_law_1510 rfl (lv_at hl 2 rfl) ?_
  refine law_Mi C0 (N' := N) tM hl.1 (as := []) w hS dL_law_1511 cw_X9_finding ml_L_191 mi_X9_finding se_X9_finding (Nat.le_of_ble_eq_true rfl) (Nat.le_of_ble_eq_true rfl) (m_X9_finding  N  r hG) rfl ?_
  intro H locs w hS
  refine lv_icmp_eq (tgt := 1556) hx hb dL_law_1514 (by decide) (fun _ => ?_) (fun hc => absurd rfl hc)
  exact hnext lw tl tt M N hR H locs w hS
set_option maxRecDepth 100000 in
set_option maxHeartbeats 4000000 in
theorem law_case_43 {p : Program} {l : Launch} {e : Env} {s : State} {m : MethodId} {below : List Frame} {meth : Method} {c : Code} {b L : Nat} {xs : Nat → Int32} (C0 : lw_At p s m meth c b L xs) {dC : Nat → ClassId} {dI : Nat → Nat → Nat} {adC adM : Nat → Nat} {ca : Nat → ClassId} {lw : Nat → Option Nat} {tl tt : Option Nat} {M N : Mem} (tC : St adC (fun q : Nat => s.heap.size ≤ q) s s.heap) (tM : St adM (fun q : Nat => s.heap.size ≤ q) s s.heap) {tm : Nat} (ht : tm ≤ 3100) (hRel : Rel tm lw M N) {x3 : Int32} (i1 : vp_in (x3 + 1) L) (i2 : vp_in (x3 + 2) L) (i3 : vp_in (x3 + 3) L) (i4 : vp_in (x3 + 4) L) (i5 : vp_in (x3 + 5) L) {ls : Array Slot} (hl : lv_has ls 4 [(0, .ref b), (1, .ref (adC 0)), (2, .ref (adM 0)), (3, .int x3)])
    (hnext : ∀ (lw' : Nat → Option Nat) (tl' tt' : Option Nat) (M' N' : Mem), Rel (tm + 1) lw' M' N' → ∀ (H : Heap) (locs : List Loc), W2 dC dI adC adM ca (fun q : Nat => s.heap.size ≤ q) lw' tl' tt' M' N' s H → va_S (fun q : Nat => s.heap.size ≤ q) s.heap H locs → W p l e room_1 s m #[Value.ref b] below meth c H locs 80 2300 (lw_Z below #[Value.ref b] s) (F0 m 1556 ls [])) (H : Heap) (locs : List Loc) (w : W2 dC dI adC adM ca (fun q : Nat => s.heap.size ≤ q) lw tl tt M N s H) (hS : va_S (fun q : Nat => s.heap.size ≤ q) s.heap H locs) : W p l e room_1 s m #[Value.ref b] below meth c H locs 80 2300 (lw_Z below #[Value.ref b] s) (F0 m 1519 ls []) := by
  obtain ⟨hx, hb, hr, hml, hown, hts0, hX, hbl, hlocks, hgv⟩ := id C0
  have hbA : ¬ (fun q : Nat => s.heap.size ≤ q) b := Nat.not_le.mpr hbl
  obtain ⟨r, hF, hG, hR⟩ := op_findings tl tt ht hRel (xs (x3 + 1).toNatClampNeg)
  refine lv_aload_n hx hb dL_law_1519 rfl (lv_at hl 1 rfl) ?_
  refine lv_aload_n hx hb dL_law_1520 rfl (lv_at hl 0 rfl) ?_
  refine lv_iload_n hx hb dL_law_1521 rfl (lv_at hl 3 rfl) ?_
  refine lv_iconst hx hb dL_law_1522 ic_1 ?_
  refine lv_iadd hx hb dL_law_1523 ?_
  refine va_sld hx hb hX hbl hbA hS i1 dL_law_1524 ?_
  refine law_Ci C0 (lw' := lw) (tl' := tl) (tt' := tt) (M' := M) tC hl.1 (as := [vI (xs (x3 + 1).toNatClampNeg)]) w hS dL_law_1525 cw_X8_findings ml_L_192 mi_X8_findings se_X8_findings (Nat.zero_le _) (Nat.le_of_ble_eq_true rfl) (m_X8_findings lw tl tt M (xs (x3 + 1).toNatClampNeg) r hF) rfl ?_
  intro H locs w hS
  refine lv_aload_n hx hb dL_law_1528 rfl (lv_at hl 2 rfl) ?_
  refine lv_aload_n hx hb dL_law_1529 rfl (lv_at hl 0 rfl) ?_
  refine lv_iload_n hx hb dL_law_1530 rfl (lv_at hl 3 rfl) ?_
  refine lv_iconst hx hb dL_law_1531 ic_1 ?_
  refine lv_iadd hx hb dL_law_1532 ?_
  refine va_sld hx hb hX hbl hbA hS i1 dL_law_1533 ?_
  refine law_Mi C0 (N' := N) tM hl.1 (as := [vI (xs (x3 + 1).toNatClampNeg)]) w hS dL_law_1534 cw_X9_findings ml_L_195 mi_X9_findings se_X9_findings (Nat.le_of_ble_eq_true rfl) (Nat.le_of_ble_eq_true rfl) (m_X9_findings  N (xs (x3 + 1).toNatClampNeg) r hG) rfl ?_
  intro H locs w hS
  refine lv_icmp_eq (tgt := 1556) hx hb dL_law_1537 (by decide) (fun _ => ?_) (fun hc => absurd rfl hc)
  exact hnext lw tl tt M N hR H locs w hS
set_option maxRecDepth 100000 in
set_option maxHeartbeats 4000000 in
theorem law_case_44 {p : Program} {l : Launch} {e : Env} {s : State} {m : MethodId} {below : List Frame} {meth : Method} {c : Code} {b L : Nat} {xs : Nat → Int32} (C0 : lw_At p s m meth c b L xs) {dC : Nat → ClassId} {dI : Nat → Nat → Nat} {adC adM : Nat → Nat} {ca : Nat → ClassId} {lw : Nat → Option Nat} {tl tt : Option Nat} {M N : Mem} (tC : St adC (fun q : Nat => s.heap.size ≤ q) s s.heap) (tM : St adM (fun q : Nat => s.heap.size ≤ q) s s.heap) {tm : Nat} (ht : tm ≤ 3100) (hRel : Rel tm lw M N) {x3 : Int32} (i1 : vp_in (x3 + 1) L) (i2 : vp_in (x3 + 2) L) (i3 : vp_in (x3 + 3) L) (i4 : vp_in (x3 + 4) L) (i5 : vp_in (x3 + 5) L) {ls : Array Slot} (hl : lv_has ls 4 [(0, .ref b), (1, .ref (adC 0)), (2, .ref (adM 0)), (3, .int x3)])
    (hnext : ∀ (lw' : Nat → Option Nat) (tl' tt' : Option Nat) (M' N' : Mem), Rel (tm + 1) lw' M' N' → ∀ (H : Heap) (locs : List Loc), W2 dC dI adC adM ca (fun q : Nat => s.heap.size ≤ q) lw' tl' tt' M' N' s H → va_S (fun q : Nat => s.heap.size ≤ q) s.heap H locs → W p l e room_1 s m #[Value.ref b] below meth c H locs 80 2300 (lw_Z below #[Value.ref b] s) (F0 m 1556 ls [])) (H : Heap) (locs : List Loc) (w : W2 dC dI adC adM ca (fun q : Nat => s.heap.size ≤ q) lw tl tt M N s H) (hS : va_S (fun q : Nat => s.heap.size ≤ q) s.heap H locs) : W p l e room_1 s m #[Value.ref b] below meth c H locs 80 2300 (lw_Z below #[Value.ref b] s) (F0 m 1542 ls []) := by
  obtain ⟨hx, hb, hr, hml, hown, hts0, hX, hbl, hlocks, hgv⟩ := id C0
  have hbA : ¬ (fun q : Nat => s.heap.size ≤ q) b := Nat.not_le.mpr hbl
  obtain ⟨r, N', hF, hG, hR⟩ := op_digest tl tt ht hRel
  refine lv_aload_n hx hb dL_law_1542 rfl (lv_at hl 1 rfl) ?_
  refine law_Cl C0 (lw' := lw) (tl' := tl) (tt' := tt) (M' := M) tC hl.1 (as := []) w hS dL_law_1543 cw_X8_digest ml_L_196 mi_X8_digest se_X8_digest (Nat.zero_le _) (Nat.le_of_ble_eq_true rfl) (m_X8_digest tl tt lw M  r hF) rfl ?_
  intro H locs w hS
  refine lv_aload_n hx hb dL_law_1546 rfl (lv_at hl 2 rfl) ?_
  refine law_Ml C0 (N' := N') tM hl.1 (as := []) w hS dL_law_1547 cw_X9_digest ml_L_199 mi_X9_digest se_X9_digest (Nat.le_of_ble_eq_true rfl) (Nat.le_of_ble_eq_true rfl) (m_X9_digest  N  r N' hG) rfl ?_
  intro H locs w hS
  refine W.lcmp hx hb dL_law_1550 ?_
  rw [lg_cmp_self]
  refine lv_if_eq (tgt := 1556) hx hb dL_law_1551 (by decide) (fun _ => ?_) (fun hc => absurd rfl hc)
  exact hnext lw tl tt M N' hR H locs w hS
