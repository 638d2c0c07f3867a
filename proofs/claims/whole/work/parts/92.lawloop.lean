set_option maxRecDepth 100000 in
set_option maxHeartbeats 8000000 in
theorem law_switch {p : Program} {l : Launch} {e : Env} {s : State} {m : MethodId} {below : List Frame} {meth : Method} {c : Code} {b L : Nat} {xs : Nat → Int32} (C0 : lw_At p s m meth c b L xs) {dC : Nat → ClassId} {dI : Nat → Nat → Nat} {adC adM : Nat → Nat} {ca : Nat → ClassId} {lw : Nat → Option Nat} {tl tt : Option Nat} {M N : Mem} (tC : St adC (fun q : Nat => s.heap.size ≤ q) s s.heap) (tM : St adM (fun q : Nat => s.heap.size ≤ q) s s.heap) {tm : Nat} (ht : tm ≤ 3100) (hRel : Rel tm lw M N) {x3 : Int32} (i1 : vp_in (x3 + 1) L) (i2 : vp_in (x3 + 2) L) (i3 : vp_in (x3 + 3) L) (i4 : vp_in (x3 + 4) L) (i5 : vp_in (x3 + 5) L) {ls : Array Slot} (hl : lv_has ls 4 [(0, .ref b), (1, .ref (adC 0)), (2, .ref (adM 0)), (3, .int x3)])
    (hnext : ∀ (lw' : Nat → Option Nat) (tl' tt' : Option Nat) (M' N' : Mem), Rel (tm + 1) lw' M' N' → ∀ (H : Heap) (locs : List Loc), W2 dC dI adC adM ca (fun q : Nat => s.heap.size ≤ q) lw' tl' tt' M' N' s H → va_S (fun q : Nat => s.heap.size ≤ q) s.heap H locs → W p l e room_1 s m #[Value.ref b] below meth c H locs 80 2300 (lw_Z below #[Value.ref b] s) (F0 m 1556 ls [])) (H : Heap) (locs : List Loc) (w : W2 dC dI adC adM ca (fun q : Nat => s.heap.size ≤ q) lw tl tt M N s H) (hS : va_S (fun q : Nat => s.heap.size ≤ q) s.heap H locs) (j : Nat) (hj : j < 2 ^ 6) : W p l e room_1 s m #[Value.ref b] below meth c H locs 80 2300 (lw_Z below #[Value.ref b] s) (F0 m 33 ls [.int (nI j)]) := by
  obtain ⟨hx, hb, hr, hml, hown, hts0, hX, hbl, hlocks, hgv⟩ := id C0
  have hj64 : j < 64 := hj
  clear hj
  match j, hj64 with
  | 0, _ => exact lv_tableIn (off := 195) (tgt := 228) hx hb dL_law_33 (by decide) (by decide) (by decide) (by decide) (law_case_0 C0 tC tM ht hRel i1 i2 i3 i4 i5 hl hnext H locs w hS)
  | 1, _ => exact lv_tableIn (off := 228) (tgt := 261) hx hb dL_law_33 (by decide) (by decide) (by decide) (by decide) (law_case_1 C0 tC tM ht hRel i1 i2 i3 i4 i5 hl hnext H locs w hS)
  | 2, _ => exact lv_tableIn (off := 271) (tgt := 304) hx hb dL_law_33 (by decide) (by decide) (by decide) (by decide) (law_case_2 C0 tC tM ht hRel i1 i2 i3 i4 i5 hl hnext H locs w hS)
  | 3, _ => exact lv_tableIn (off := 304) (tgt := 337) hx hb dL_law_33 (by decide) (by decide) (by decide) (by decide) (law_case_3 C0 tC tM ht hRel i1 i2 i3 i4 i5 hl hnext H locs w hS)
  | 4, _ => exact lv_tableIn (off := 327) (tgt := 360) hx hb dL_law_33 (by decide) (by decide) (by decide) (by decide) (law_case_4 C0 tC tM ht hRel i1 i2 i3 i4 i5 hl hnext H locs w hS)
  | 5, _ => exact lv_tableIn (off := 390) (tgt := 423) hx hb dL_law_33 (by decide) (by decide) (by decide) (by decide) (law_case_5 C0 tC tM ht hRel i1 i2 i3 i4 i5 hl hnext H locs w hS)
  | 6, _ => exact lv_tableIn (off := 413) (tgt := 446) hx hb dL_law_33 (by decide) (by decide) (by decide) (by decide) (law_case_6 C0 tC tM ht hRel i1 i2 i3 i4 i5 hl hnext H locs w hS)
  | 7, _ => exact lv_tableIn (off := 446) (tgt := 479) hx hb dL_law_33 (by decide) (by decide) (by decide) (by decide) (law_case_7 C0 tC tM ht hRel i1 i2 i3 i4 i5 hl hnext H locs w hS)
  | 8, _ => exact lv_tableIn (off := 489) (tgt := 522) hx hb dL_law_33 (by decide) (by decide) (by decide) (by decide) (law_case_8 C0 tC tM ht hRel i1 i2 i3 i4 i5 hl hnext H locs w hS)
  | 9, _ => exact lv_tableIn (off := 512) (tgt := 545) hx hb dL_law_33 (by decide) (by decide) (by decide) (by decide) (law_case_9 C0 tC tM ht hRel i1 i2 i3 i4 i5 hl hnext H locs w hS)
  | 10, _ => exact lv_tableIn (off := 535) (tgt := 568) hx hb dL_law_33 (by decide) (by decide) (by decide) (by decide) (law_case_10 C0 tC tM ht hRel i1 i2 i3 i4 i5 hl hnext H locs w hS)
  | 11, _ => exact lv_tableIn (off := 568) (tgt := 601) hx hb dL_law_33 (by decide) (by decide) (by decide) (by decide) (law_case_11 C0 tC tM ht hRel i1 i2 i3 i4 i5 hl hnext H locs w hS)
  | 12, _ => exact lv_tableIn (off := 591) (tgt := 624) hx hb dL_law_33 (by decide) (by decide) (by decide) (by decide) (law_case_12 C0 tC tM ht hRel i1 i2 i3 i4 i5 hl hnext H locs w hS)
  | 13, _ => exact lv_tableIn (off := 624) (tgt := 657) hx hb dL_law_33 (by decide) (by decide) (by decide) (by decide) (law_case_13 C0 tC tM ht hRel i1 i2 i3 i4 i5 hl hnext H locs w hS)
  | 14, _ => exact lv_tableIn (off := 657) (tgt := 690) hx hb dL_law_33 (by decide) (by decide) (by decide) (by decide) (law_case_14 C0 tC tM ht hRel i1 i2 i3 i4 i5 hl hnext H locs w hS)
  | 15, _ => exact lv_tableIn (off := 680) (tgt := 713) hx hb dL_law_33 (by decide) (by decide) (by decide) (by decide) (law_case_15 C0 tC tM ht hRel i1 i2 i3 i4 i5 hl hnext H locs w hS)
  | 16, _ => exact lv_tableIn (off := 703) (tgt := 736) hx hb dL_law_33 (by decide) (by decide) (by decide) (by decide) (law_case_16 C0 tC tM ht hRel i1 i2 i3 i4 i5 hl hnext H locs w hS)
  | 17, _ => exact lv_tableIn (off := 736) (tgt := 769) hx hb dL_law_33 (by decide) (by decide) (by decide) (by decide) (law_case_17 C0 tC tM ht hRel i1 i2 i3 i4 i5 hl hnext H locs w hS)
  | 18, _ => exact lv_tableIn (off := 759) (tgt := 792) hx hb dL_law_33 (by decide) (by decide) (by decide) (by decide) (law_case_18 C0 tC tM ht hRel i1 i2 i3 i4 i5 hl hnext H locs w hS)
  | 19, _ => exact lv_tableIn (off := 782) (tgt := 815) hx hb dL_law_33 (by decide) (by decide) (by decide) (by decide) (law_case_19 C0 tC tM ht hRel i1 i2 i3 i4 i5 hl hnext H locs w hS)
  | 20, _ => exact lv_tableIn (off := 805) (tgt := 838) hx hb dL_law_33 (by decide) (by decide) (by decide) (by decide) (law_case_20 C0 tC tM ht hRel i1 i2 i3 i4 i5 hl hnext H locs w hS)
  | 21, _ => exact lv_tableIn (off := 848) (tgt := 881) hx hb dL_law_33 (by decide) (by decide) (by decide) (by decide) (law_case_21 C0 tC tM ht hRel i1 i2 i3 i4 i5 hl hnext H locs w hS)
  | 22, _ => exact lv_tableIn (off := 901) (tgt := 934) hx hb dL_law_33 (by decide) (by decide) (by decide) (by decide) (law_case_22 C0 tC tM ht hRel i1 i2 i3 i4 i5 hl hnext H locs w hS)
  | 23, _ => exact lv_tableIn (off := 944) (tgt := 977) hx hb dL_law_33 (by decide) (by decide) (by decide) (by decide) (law_case_23 C0 tC tM ht hRel i1 i2 i3 i4 i5 hl hnext H locs w hS)
  | 24, _ => exact lv_tableIn (off := 977) (tgt := 1010) hx hb dL_law_33 (by decide) (by decide) (by decide) (by decide) (law_case_24 C0 tC tM ht hRel i1 i2 i3 i4 i5 hl hnext H locs w hS)
  | 25, _ => exact lv_tableIn (off := 1000) (tgt := 1033) hx hb dL_law_33 (by decide) (by decide) (by decide) (by decide) (law_case_25 C0 tC tM ht hRel i1 i2 i3 i4 i5 hl hnext H locs w hS)
  | 26, _ => exact lv_tableIn (off := 1023) (tgt := 1056) hx hb dL_law_33 (by decide) (by decide) (by decide) (by decide) (law_case_26 C0 tC tM ht hRel i1 i2 i3 i4 i5 hl hnext H locs w hS)
  | 27, _ => exact lv_tableIn (off := 1046) (tgt := 1079) hx hb dL_law_33 (by decide) (by decide) (by decide) (by decide) (law_case_27 C0 tC tM ht hRel i1 i2 i3 i4 i5 hl hnext H locs w hS)
  | 28, _ => exact lv_tableIn (off := 1089) (tgt := 1122) hx hb dL_law_33 (by decide) (by decide) (by decide) (by decide) (law_case_28 C0 tC tM ht hRel i1 i2 i3 i4 i5 hl hnext H locs w hS)
  | 29, _ => exact lv_tableIn (off := 1122) (tgt := 1155) hx hb dL_law_33 (by decide) (by decide) (by decide) (by decide) (law_case_29 C0 tC tM ht hRel i1 i2 i3 i4 i5 hl hnext H locs w hS)
  | 30, _ => exact lv_tableIn (off := 1145) (tgt := 1178) hx hb dL_law_33 (by decide) (by decide) (by decide) (by decide) (law_case_30 C0 tC tM ht hRel i1 i2 i3 i4 i5 hl hnext H locs w hS)
  | 31, _ => exact lv_tableIn (off := 1208) (tgt := 1241) hx hb dL_law_33 (by decide) (by decide) (by decide) (by decide) (law_case_31 C0 tC tM ht hRel i1 i2 i3 i4 i5 hl hnext H locs w hS)
  | 32, _ => exact lv_tableIn (off := 1241) (tgt := 1274) hx hb dL_law_33 (by decide) (by decide) (by decide) (by decide) (law_case_32 C0 tC tM ht hRel i1 i2 i3 i4 i5 hl hnext H locs w hS)
  | 33, _ => exact lv_tableIn (off := 1264) (tgt := 1297) hx hb dL_law_33 (by decide) (by decide) (by decide) (by decide) (law_case_33 C0 tC tM ht hRel i1 i2 i3 i4 i5 hl hnext H locs w hS)
  | 34, _ => exact lv_tableIn (off := 1287) (tgt := 1320) hx hb dL_law_33 (by decide) (by decide) (by decide) (by decide) (law_case_34 C0 tC tM ht hRel i1 i2 i3 i4 i5 hl hnext H locs w hS)
  | 35, _ => exact lv_tableIn (off := 1310) (tgt := 1343) hx hb dL_law_33 (by decide) (by decide) (by decide) (by decide) (law_case_35 C0 tC tM ht hRel i1 i2 i3 i4 i5 hl hnext H locs w hS)
  | 36, _ => exact lv_tableIn (off := 1333) (tgt := 1366) hx hb dL_law_33 (by decide) (by decide) (by decide) (by decide) (law_case_36 C0 tC tM ht hRel i1 i2 i3 i4 i5 hl hnext H locs w hS)
  | 37, _ => exact lv_tableIn (off := 1366) (tgt := 1399) hx hb dL_law_33 (by decide) (by decide) (by decide) (by decide) (law_case_37 C0 tC tM ht hRel i1 i2 i3 i4 i5 hl hnext H locs w hS)
  | 38, _ => exact lv_tableIn (off := 1409) (tgt := 1442) hx hb dL_law_33 (by decide) (by decide) (by decide) (by decide) (law_case_38 C0 tC tM ht hRel i1 i2 i3 i4 i5 hl hnext H locs w hS)
  | 39, _ => exact lv_tableIn (off := 1422) (tgt := 1455) hx hb dL_law_33 (by decide) (by decide) (by decide) (by decide) (law_case_39 C0 tC tM ht hRel i1 i2 i3 i4 i5 hl hnext H locs w hS)
  | 40, _ => exact lv_tableIn (off := 1436) (tgt := 1469) hx hb dL_law_33 (by decide) (by decide) (by decide) (by decide) (law_case_40 C0 tC tM ht hRel i1 i2 i3 i4 i5 hl hnext H locs w hS)
  | 41, _ => exact lv_tableIn (off := 1450) (tgt := 1483) hx hb dL_law_33 (by decide) (by decide) (by decide) (by decide) (law_case_41 C0 tC tM ht hRel i1 i2 i3 i4 i5 hl hnext H locs w hS)
  | 42, _ => exact lv_tableIn (off := 1473) (tgt := 1506) hx hb dL_law_33 (by decide) (by decide) (by decide) (by decide) (law_case_42 C0 tC tM ht hRel i1 i2 i3 i4 i5 hl hnext H locs w hS)
  | 43, _ => exact lv_tableIn (off := 1486) (tgt := 1519) hx hb dL_law_33 (by decide) (by decide) (by decide) (by decide) (law_case_43 C0 tC tM ht hRel i1 i2 i3 i4 i5 hl hnext H locs w hS)
  | 44, _ => exact lv_tableIn (off := 1509) (tgt := 1542) hx hb dL_law_33 (by decide) (by decide) (by decide) (by decide) (law_case_44 C0 tC tM ht hRel i1 i2 i3 i4 i5 hl hnext H locs w hS)
  | j + 45, hj => exact lv_tableOut (tgt := 1556) hx hb dL_law_33 (Or.inr (by rw [nI_toInt (by omega)]; omega)) (by decide) (hnext lw tl tt M N hRel.up H locs w hS)
set_option maxRecDepth 100000 in
set_option maxHeartbeats 4000000 in
theorem law_loop {p : Program} {l : Launch} {e : Env} {s : State} {m : MethodId} {below : List Frame} {meth : Method} {c : Code} {b L : Nat} {xs : Nat → Int32} (C0 : lw_At p s m meth c b L xs) (hL : L ≤ 3072) {dC : Nat → ClassId} {dI : Nat → Nat → Nat} {adC adM : Nat → Nat} {ca : Nat → ClassId} (tC : St adC (fun q : Nat => s.heap.size ≤ q) s s.heap) (tM : St adM (fun q : Nat => s.heap.size ≤ q) s s.heap) :
    ∀ (k n tm : Nat) (x3 : Int32) (lw : Nat → Option Nat) (tl tt : Option Nat) (M N : Mem), n ≤ L → L + 6 ≤ n + 6 * k → x3 = nI n → tm ≤ n → Rel tm lw M N → ∀ (ls : Array Slot), lv_has ls 4 [(0, .ref b), (1, .ref (adC 0)), (2, .ref (adM 0)), (3, .int x3)] → ∀ (H : Heap) (locs : List Loc), W2 dC dI adC adM ca (fun q : Nat => s.heap.size ≤ q) lw tl tt M N s H → va_S (fun q : Nat => s.heap.size ≤ q) s.heap H locs → W p l e room_1 s m #[Value.ref b] below meth c H locs 80 2300 (lw_Z below #[Value.ref b] s) (F0 m 18 ls []) := by
  obtain ⟨hx, hb, hr, hml, hown, hts0, hX, hbl, hlocks, hgv⟩ := id C0
  have hbA : ¬ (fun q : Nat => s.heap.size ≤ q) b := Nat.not_le.mpr hbl
  intro k
  induction k with
  | zero => intro n tm x3 lw tl tt M N h1 h2; exact absurd h2 (by omega)
  | succ k ih =>
    intro n tm x3 lw tl tt M N hn hk ex3 htm hRel ls hl H locs w hS
    refine lv_iload_n hx hb dL_law_18 rfl (lv_at hl 3 rfl) ?_
    refine lv_aload_n hx hb dL_law_19 rfl (lv_at hl 0 rfl) ?_
    refine va_slen hx hb hX hbl hbA hS dL_law_20 ?_
    refine lv_bipush hx hb dL_law_21 bp_6 ?_
    refine lv_isub hx hb dL_law_23 ?_
    have hsub : (Int32.ofNat L - nI 6).toInt = (L : Int) - 6 := pk_sub_toInt (a := L) (b := 6) (by omega) (by decide)
    refine lv_icmp_gt (tgt := 1562) hx hb dL_law_24 (by decide) (fun hc => ?_) (fun hc => ?_)
    · refine lv_iconst hx hb dL_law_1562 ic_1 ?_
      refine va_forget (fun q hq => hS.2.2 q hq) ?_
      refine W.widen (k := 600000) (n := 7302250) (by omega) (by omega) ?_
      exact lw_ret hx hb hr hlocks dL_law_1563
    · have hlt : n + 6 ≤ L := by
        rw [Int32.lt_iff_toInt_lt, hsub, ex3, nI_toInt (by omega)] at hc
        omega
      have ix : ∀ j : Nat, j < 6 → vp_in (nI (n + j)) L := fun j hj => vp_in_nI (by omega) (by omega)
      have i0 : vp_in x3 L := by rw [ex3]; exact ix 0 (by omega)
      have i1 : vp_in (x3 + 1) L := by rw [ex3]; exact (nI_add n 1) ▸ ix 1 (by omega)
      have i2 : vp_in (x3 + 2) L := by rw [ex3]; exact (nI_add n 2) ▸ ix 2 (by omega)
      have i3 : vp_in (x3 + 3) L := by rw [ex3]; exact (nI_add n 3) ▸ ix 3 (by omega)
      have i4 : vp_in (x3 + 4) L := by rw [ex3]; exact (nI_add n 4) ▸ ix 4 (by omega)
      have i5 : vp_in (x3 + 5) L := by rw [ex3]; exact (nI_add n 5) ▸ ix 5 (by omega)
      have hnext : ∀ (lw' : Nat → Option Nat) (tl' tt' : Option Nat) (M' N' : Mem), Rel (tm + 1) lw' M' N' → ∀ (H : Heap) (locs : List Loc), W2 dC dI adC adM ca (fun q : Nat => s.heap.size ≤ q) lw' tl' tt' M' N' s H → va_S (fun q : Nat => s.heap.size ≤ q) s.heap H locs → W p l e room_1 s m #[Value.ref b] below meth c H locs 80 2300 (lw_Z below #[Value.ref b] s) (F0 m 1556 ls []) := by
        intro lw' tl' tt' M' N' hR H locs w hS
        obtain ⟨y3, ey3⟩ : ∃ y : Int32, y = x3 + 6 := ⟨_, rfl⟩
        refine lv_iinc (v := y3) (lv' := [(3, .int y3), (0, .ref b), (1, .ref (adC 0)), (2, .ref (adM 0))]) hx hb dL_law_1556 hl (k := 3) rfl (by rw [ey3]; rfl) (by decide) rfl (fun ls hl => ?_)
        refine lv_goto (tgt := 18) hx hb dL_law_1559 (by decide) ?_
        exact ih (n + 6) (tm + 1) y3 lw' tl' tt' M' N' (by omega) (by omega) (by rw [ey3, ex3]; exact nI_add n 6) (by omega) hR ls (lv_sub hl [1, 2, 3, 0] rfl) H locs w hS
      refine lv_aload_n hx hb dL_law_27 rfl (lv_at hl 0 rfl) ?_
      refine lv_iload_n hx hb dL_law_28 rfl (lv_at hl 3 rfl) ?_
      refine va_sld hx hb hX hbl hbA hS i0 dL_law_29 ?_
      refine lv_bipush hx hb dL_law_30 bp_63 ?_
      refine lv_iand hx hb dL_law_32 ?_
      obtain ⟨j, hj, ej⟩ := pk_andE (xs x3.toNatClampNeg) (m := 63) 6 (by decide)
      have ej2 : xs x3.toNatClampNeg &&& nI 63 = nI j := ej
      rw [ej2]
      clear ej ej2
      exact law_switch C0 tC tM (tm := tm) (by omega) hRel i1 i2 i3 i4 i5 hl hnext H locs w hS j hj
