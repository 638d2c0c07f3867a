set_option maxRecDepth 100000 in
set_option maxHeartbeats 8000000 in
/-- the system is made -/
theorem law_makeC {p : Program} {l : Launch} {e : Env} {s : State} {m : MethodId} {below : List Frame} {meth : Method} {c : Code} {b L : Nat} {xs : Nat → Int32} (C0 : lw_At p s m meth c b L xs) {dC : Nat → ClassId} {dI : Nat → Nat → Nat} {adC : Nat → Nat} {ca : Nat → ClassId} (hK : va_K (dC, dI) vwCl (tysOf ca) s) (ha : ∀ q, q < 1000 → adC q = s.heap.size + q) (tC : St adC (fun q : Nat => s.heap.size ≤ q) s s.heap) {ls : Array Slot} (hl : lv_has ls 4 [(0, .ref b)])
    (k : ∀ (H : Heap) (locs : List Loc), va_P (dC, dI) vwCl (wd adC ca cv_132 cm_77 LAYC) H → va_S (fun q : Nat => s.heap.size ≤ q) s.heap H locs → W p l e room_1 s m #[Value.ref b] below meth c H locs 61 904 (lw_Z below #[Value.ref b] s) (F0 m 7 ls [.ref (adC 0)])) : W p l e room_1 s m #[Value.ref b] below meth c s.heap [] 0 0 (lw_Z below #[Value.ref b] s) (F0 m 0 ls []) := by
  obtain ⟨hx, hb, hr, hml, hown, hts0, hX, hbl, hlocks, hgv⟩ := id C0
  have hts : ∀ z ∈ lg_tbl, z.before #[Value.ref b] s = true := fun z hz => hts0 z (List.mem_filter.mp hz).1
  have hA : ∀ q : Nat, s.heap.size ≤ q → (fun q : Nat => s.heap.size ≤ q) q := fun _ h => h
  have hKn := hK.1 7 _ clOK_X8.2.1
  have a0 : adC 0 = s.heap.size := ha 0 (by omega)
  refine W.newcK (g := F0 m 0 ls []) hx hb hown (hts _ ck_L_7) (hts _ in_X8) (hts _ ini_X8) rfl dL_law_0 (show 0 + 1 ≤ 600000 by omega) (show 0 + 17 ≤ 7302250 by omega) hKn.2.1 a0.symm (fun H1 kC hkC e1 z1 o1 => ?_)
  have hP1 := born_at hK hts clOK_X8 clTy_X8 hkC e1
  have hS1 : va_S (fun q : Nat => s.heap.size ≤ q) s.heap H1 [] := ⟨by omega, fun q h1 _ => o1 q (by rw [a0]; exact h1), fun _ h => by cases h⟩
  have hD1 : va_D (fun q : Nat => s.heap.size ≤ q) (wd adC ca cv_0 cm_0 (LAYC.take 1)) := wd_D (fun i j hi hj e => by
    have hi : i < 1 := hi
    have hj : j < 1 := hj
    omega) (fun i hi => by
    have hi : i < 1 := hi
    show s.heap.size ≤ adC i
    rw [ha i (by omega)]; omega)
  refine lv_dup hx hb dL_law_3 rfl ?_
  have hF := wd_free hD1 hS1 hA
  have pre : ∀ U : State, U.heap = H1 → s.WarmedH U.vm → (va_Pc (([vR (some 0)] : List AV).map (cv adC)) (fun U => U.heap.size = H1.size ∧ Wo dC dI adC ca (fun _ => True) (LAYC.take 1) cv_0 cm_0 U U.heap ∧ St adC (va_A (wd adC ca cv_0 cm_0 (LAYC.take 1)) H1.size) U U.heap ∧ Gr true adC (LAYC.take 1) U.heap.size)) (([vR (some 0)] : List AV).map (cv adC)).toArray U := fun U hU hW => ⟨rfl, by rw [hU], ⟨va_K.moved hW.alike hK, by rw [hU]; exact hP1, hD1.weaken (fun _ _ _ _ => trivial)⟩, by rw [hU]; exact tC.go hW.alike (tC.2.warm hW) hS1.2.1 hF, by
    rw [hU]
    intro _
    refine ⟨?_, fun q hq => ?_, by decide, by decide⟩
    · show H1.size = adC 1
      rw [ha 1 (by omega), z1, a0]
    · rw [ha q (by omega), ha (q + 1) (by omega)]; omega⟩
  have hrun := va_runI (R := room_1) (l := l) (e := e) (below := below) (meth := meth) (locs := []) (cells := 0 + 1) (slots := 0 + 17) (g := F0 m 4 ls [.ref (adC 0), .ref (adC 0)]) (As := []) (rest := [.ref (adC 0)]) ⟨hx, hb, hml, hown, hts⟩ (kc_26 l dC dI adC ca H1.size) ⟨(callB_of (rm := rmOf 8 60 887) 0 hts (cw_X8_init (own := RL) (i := 9)).good rfl rfl rfl (hts _ (cw_X8_init (own := RL) (i := 9)).1) (hts _ ml_L_9) (cw_X8_init (own := RL) (i := 9)).2.2.2.1 ⟨show 8 + 1 ≤ 2048 by omega, show 8 + (2 + 11) + 64 * 8 ≤ 84000 by omega⟩), rfl, hts _ mi_X8_init⟩ ⟨blind dC dI adC ca H1.size true [vR (some 0)] (LAYC.take 1) cv_0 cm_0, pre⟩ rfl rfl hl.1 rfl (lv_room (Nat.le_of_ble_eq_true rfl)) dL_law_4 ⟨show 0 + 1 + 60 ≤ 600000 by omega, show 0 + 17 + 887 ≤ 7302250 by omega⟩
  refine va_callv (a := (Value.ref (adC 0) :: ([] : List Value)).toArray) hrun hS1 (fun q _ h => hF q h) hF (fun u t' H2 locs2 ht hvm hw2 hB hz2 hk hS2 => ?_)
  obtain ⟨SH1, V1, M1⟩ := u
  obtain ⟨-, e2, e3, e4⟩ := hw2
  simp only at e2 e3 e4
  subst e2 e3 e4
  obtain ⟨b1, b2, b3⟩ := hB
  simp only at b1 b2 b3
  rw [ht] at b2
  exact k H2 locs2 b2 hS2
set_option maxRecDepth 100000 in
set_option maxHeartbeats 8000000 in
theorem law_makeM {p : Program} {l : Launch} {e : Env} {s : State} {m : MethodId} {below : List Frame} {meth : Method} {c : Code} {b L : Nat} {xs : Nat → Int32} (C0 : lw_At p s m meth c b L xs) {dC : Nat → ClassId} {dI : Nat → Nat → Nat} {adC adM : Nat → Nat} {ca : Nat → ClassId} (hK : va_K (dC, dI) vwCl (tysOf ca) s) (ha : ∀ q, q < 1000 → adC q = s.heap.size + q) (hm : ∀ q, q < 1000 → adM q = s.heap.size + 61 + q) (tM : St adM (fun q : Nat => s.heap.size ≤ q) s s.heap) {ls : Array Slot} (hls : ls.size = 4) {H : Heap} {locs : List Loc} (wC : va_P (dC, dI) vwCl (wd adC ca cv_132 cm_77 LAYC) H) (hS : va_S (fun q : Nat => s.heap.size ≤ q) s.heap H locs)
    (k : ∀ (H : Heap) (locs : List Loc), va_P (dC, dI) vwCl (wd adC ca cv_132 cm_77 LAYC) H → va_P (dC, dI) vwCl (wd adM ca mv_36 mm_29 LAYM) H → va_S (fun q : Nat => s.heap.size ≤ q) s.heap H locs → W p l e room_1 s m #[Value.ref b] below meth c H locs (61 + 1 + 18) (904 + 34 + 1355) (lw_Z below #[Value.ref b] s) (F0 m 15 ls [.ref (adM 0)])) : W p l e room_1 s m #[Value.ref b] below meth c H locs 61 904 (lw_Z below #[Value.ref b] s) (F0 m 8 ls []) := by
  obtain ⟨hx, hb, hr, hml, hown, hts0, hX, hbl, hlocks, hgv⟩ := id C0
  have hts : ∀ z ∈ lg_tbl, z.before #[Value.ref b] s = true := fun z hz => hts0 z (List.mem_filter.mp hz).1
  have hA : ∀ q : Nat, s.heap.size ≤ q → (fun q : Nat => s.heap.size ≤ q) q := fun _ h => h
  have hKn := hK.1 8 _ clOK_X9.2.1
  have a0 : adM 0 = s.heap.size + 61 := hm 0 (by omega)
  intro T0 hT0 X
  have hz : H.size = adM 0 := by
    have h1 : H.size ≤ s.heap.size + 61 := by rw [← hT0]; exact X.heapSize
    have h2 := (wC 60 _ (wd_at (show LAYC[60]? = some (3, 0) from rfl))).lt
    have h3 := ha 60 (by omega)
    simp only at h2
    omega
  refine W.newcK (g := F0 m 8 ls []) hx hb hown (hts _ ck_L_10) (hts _ in_X9) (hts _ ini_X9) rfl dL_law_8 (show 61 + 1 ≤ 600000 by omega) (show 904 + 34 ≤ 7302250 by omega) hKn.2.1 hz (fun H1 kC hkC e1 z1 o1 => ?_) T0 hT0 X
  have hP1 := born_at hK hts clOK_X9 clTy_X9 hkC e1
  have wC1 : va_P (dC, dI) vwCl (wd adC ca cv_132 cm_77 LAYC) H1 := wC.kept (fun i q hq => o1 q.1 (hz ▸ (wC i q hq).lt))
  have hS1 : va_S (fun q : Nat => s.heap.size ≤ q) s.heap H1 locs := ⟨by have := hS.1; omega, fun q h1 h2 => (o1 q (by have := hS.1; omega)).trans (hS.2.1 q h1 h2), hS.2.2⟩
  have hD1 : va_D (fun q : Nat => s.heap.size ≤ q) (wd adM ca mv_0 mm_0 (LAYM.take 1)) := wd_D (fun i j hi hj e => by
    have hi : i < 1 := hi
    have hj : j < 1 := hj
    omega) (fun i hi => by
    have hi : i < 1 := hi
    show s.heap.size ≤ adM i
    rw [hm i (by omega)]; omega)
  refine lv_dup hx hb dL_law_11 rfl ?_
  have hF := wd_free hD1 hS1 hA
  have pre : ∀ U : State, U.heap = H1 → s.WarmedH U.vm → (va_Pc (([vR (some 0)] : List AV).map (cv adM)) (fun U => U.heap.size = H1.size ∧ Wo dC dI adM ca (fun _ => True) (LAYM.take 1) mv_0 mm_0 U U.heap ∧ St adM (va_A (wd adM ca mv_0 mm_0 (LAYM.take 1)) H1.size) U U.heap ∧ Gr true adM (LAYM.take 1) U.heap.size)) (([vR (some 0)] : List AV).map (cv adM)).toArray U := fun U hU hW => ⟨rfl, by rw [hU], ⟨va_K.moved hW.alike hK, by rw [hU]; exact hP1, hD1.weaken (fun _ _ _ _ => trivial)⟩, by rw [hU]; exact tM.go hW.alike (tM.2.warm hW) hS1.2.1 hF, by
    rw [hU]
    intro _
    refine ⟨?_, fun q hq => ?_, by decide, by decide⟩
    · show H1.size = adM 1
      rw [hm 1 (by omega), z1, a0]
    · rw [hm q (by omega), hm (q + 1) (by omega)]; omega⟩
  have hrun := va_runI (R := room_1) (l := l) (e := e) (below := below) (meth := meth) (locs := locs) (cells := 61 + 1) (slots := 904 + 34) (g := F0 m 12 ls [.ref (adM 0), .ref (adM 0)]) (As := []) (rest := [.ref (adM 0)]) ⟨hx, hb, hml, hown, hts⟩ (km_1 l dC dI adM ca H1.size) ⟨(callB_of (rm := rmOf 4 18 1355) 0 hts (cw_X9_init (own := RL) (i := 12)).good rfl rfl rfl (hts _ (cw_X9_init (own := RL) (i := 12)).1) (hts _ ml_L_12) (cw_X9_init (own := RL) (i := 12)).2.2.2.1 ⟨show 4 + 1 ≤ 2048 by omega, show 8 + (2 + 11) + 64 * 4 ≤ 84000 by omega⟩), rfl, hts _ mi_X9_init⟩ ⟨blind dC dI adM ca H1.size true [vR (some 0)] (LAYM.take 1) mv_0 mm_0, pre⟩ rfl rfl hls rfl (lv_room (Nat.le_of_ble_eq_true rfl)) dL_law_12 ⟨show 61 + 1 + 18 ≤ 600000 by omega, show 904 + 34 + 1355 ≤ 7302250 by omega⟩
  refine va_callv (a := (Value.ref (adM 0) :: ([] : List Value)).toArray) hrun hS1 (fun q _ h => hF q h) hF (fun u t' H2 locs2 ht hvm hw2 hB hz2 hk hS2 => ?_)
  obtain ⟨SH1, V1, M1⟩ := u
  obtain ⟨-, e2, e3, e4⟩ := hw2
  simp only at e2 e3 e4
  subst e2 e3 e4
  obtain ⟨b1, b2, b3⟩ := hB
  simp only at b1 b2 b3
  rw [ht] at b2
  refine k H2 locs2 (wC1.kept (fun i q hq => ?_)) b2 hS2
  have hlt := (wC1 i q hq).lt
  refine hk q.1 hlt (fun hAq => ?_)
  rcases hAq with ⟨k2, e9, h9⟩ | h9
  · obtain ⟨sh1, g1, rfl⟩ := wd_of hq
    obtain ⟨sh2, g2, g3⟩ := wd_of h9
    have l1 : i < 61 := (List.getElem?_eq_some_iff.mp g1).1
    have l2 : k2 < 1 := (List.getElem?_eq_some_iff.mp g2).1
    have := congrArg Prod.fst g3
    simp only at this
    rw [ha i (by omega), hm k2 (by omega)] at this
    omega
  · omega
set_option maxRecDepth 100000 in
set_option maxHeartbeats 8000000 in
theorem whole_start {p : Program} {e : Env} {s : State} {m : MethodId} {below : List Frame} {meth : Method} {c : Code} (l : Launch) (hflags : l.flags = flags0) {b L : Nat} {xs : Nat → Int32} (hL : L ≤ 3072) (C0 : lw_At p s m meth c b L xs) : W p l e room_1 s m #[Value.ref b] below meth c s.heap [] 0 0 (lw_Z below #[Value.ref b] s) (entryFrame m ([Value.ref b] : List Value).toArray 4) := by
  obtain ⟨hx, hb, hr, hml, hown, hts0, hX, hbl, hlocks, hgv⟩ := id C0
  obtain ⟨t0, t1, hst⟩ := st_start C0
  obtain ⟨dC, dI, ca, hK⟩ := known_start C0
  obtain ⟨adC, haC, hC0, hC1⟩ : ∃ ad : Nat → Nat, (∀ q, q < 1000 → ad q = s.heap.size + q) ∧ ad 1000 = t0 ∧ ad 1001 = t1 := ⟨(fun q : Nat => if q < 1000 then s.heap.size + q else if q = 1000 then t0 else t1), fun q hq => if_pos hq, rfl, rfl⟩
  obtain ⟨adM, haM, hM0, hM1⟩ : ∃ ad : Nat → Nat, (∀ q, q < 1000 → ad q = s.heap.size + 61 + q) ∧ ad 1000 = t0 ∧ ad 1001 = t1 := ⟨(fun q : Nat => if q < 1000 then s.heap.size + 61 + q else if q = 1000 then t0 else t1), fun q hq => if_pos hq, rfl, rfl⟩
  have tC := hst adC hC0 hC1
  have tM := hst adM hM0 hM1
  have hl := lv_entry ([.ref b]) (n := 4) (Nat.le_of_ble_eq_true rfl)
  rw [lg_entry_eq]
  generalize (lg_sl ([.ref b]) ++ List.replicate (4 - (lg_sl ([.ref b])).length) Slot.unset).toArray = ls at hl ⊢
  have hl : lv_has ls 4 [(0, .ref b)] := hl
  refine law_makeC C0 hK haC tC hl (fun H locs wC hS => ?_)
  refine lv_astore_n (lv' := [(1, .ref (adC 0)), (0, .ref b)]) hx hb dL_law_7 rfl hl (by decide) rfl (fun ls hl => ?_)
  refine law_makeM C0 hK haC haM tM hl.1 wC hS (fun H locs wC wM hS => ?_)
  refine lv_astore_n (lv' := [(2, .ref (adM 0)), (1, .ref (adC 0)), (0, .ref b)]) hx hb dL_law_15 rfl hl (by decide) rfl (fun ls hl => ?_)
  refine lv_iconst hx hb dL_law_16 ic_0 ?_
  refine lv_istore_n (lv' := [(3, .int 0), (2, .ref (adM 0)), (1, .ref (adC 0)), (0, .ref b)]) hx hb dL_law_17 rfl hl (by decide) rfl (fun ls hl => ?_)
  refine W.widen (k := 80) (n := 2300) (by omega) (by omega) ?_
  refine law_loop C0 hL tC tM 514 0 0 0 (fun _ => none) none none cm_77 mm_29 (Nat.zero_le _) (by omega) rfl (Nat.zero_le _) rel0 ls (lv_sub hl [3, 2, 1, 0] rfl) H locs ⟨hK, ⟨wd_same (vchk_ok vC_ok) wC, wd_same (vchk_ok vM_ok) wM⟩, ⟨wd_D (fun i j hi hj e => ?_) (fun i hi => ?_), wd_D (fun i j hi hj e => ?_) (fun i hi => ?_)⟩, fun i j hi hj e => ?_⟩ hS
  · have hi : i < 61 := hi
    have hj : j < 61 := hj
    rw [haC i (by omega), haC j (by omega)] at e
    omega
  · have hi : i < 61 := hi
    show s.heap.size ≤ adC i
    rw [haC i (by omega)]; omega
  · have hi : i < 19 := hi
    have hj : j < 19 := hj
    rw [haM i (by omega), haM j (by omega)] at e
    omega
  · have hi : i < 19 := hi
    show s.heap.size ≤ adM i
    rw [haM i (by omega)]; omega
  · rw [haC i (by omega), haM j (by omega)] at e
    omega
