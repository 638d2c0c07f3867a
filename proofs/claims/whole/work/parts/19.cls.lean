def F_J9_min_7cf53 (x0 : Int32) (x1 : Int32) : Option (Int32) :=
 if x1 < x0 then some x1
 else some x0
set_option maxRecDepth 100000 in
set_option maxHeartbeats 4000000 in
theorem m_J9_min_7cf53 (SH : List Sh) (V : Rf) (M : Mem) (x0 : Int32) (x1 : Int32) (r : Int32) (h : F_J9_min_7cf53 x0 x1 = some r) : Cal yJ9_min_7cf53 cJ9_min_7cf53 2 (some .int) 0 1 0 0 false [vI x0, vI x1] SH V M (eqp (vI r) SH V M) := by
  refine Cal.of (by decide +kernel) (Nat.le_of_ble_eq_true rfl) (fun h => by cases h) ?_
  unfold F_J9_min_7cf53 at h
  show T RJ9 cJ9_min_7cf53 2 (some .int) 0 1 0 0 false (eqp (vI r) SH V M) 0 [aI x0, aI x1] [] SH V M 0 0
  refine T_iload_n dJ9_min_7cf53_0 rfl ?_
  refine T_iload_n dJ9_min_7cf53_1 rfl ?_
  refine T_icmp_gt (tgt := 9) dJ9_min_7cf53_2 (by decide) (fun hc => ?_) (fun hc => ?_)
  · have h := it_pos hc h
    refine T_iload_n dJ9_min_7cf53_9 rfl ?_
    obtain rfl := sm1 h
    exact T_iret dJ9_min_7cf53_10 ⟨rfl, rfl, rfl, rfl⟩
  · have h := it_neg hc h
    refine T_iload_n dJ9_min_7cf53_5 rfl ?_
    refine T_goto (tgt := 10) dJ9_min_7cf53_6 (by decide) ?_
    obtain rfl := sm1 h
    exact T_iret dJ9_min_7cf53_10 ⟨rfl, rfl, rfl, rfl⟩
def F_J9_max_7cf53 (x0 : Int32) (x1 : Int32) : Option (Int32) :=
 if x0 < x1 then some x1
 else some x0
set_option maxRecDepth 100000 in
set_option maxHeartbeats 4000000 in
theorem m_J9_max_7cf53 (SH : List Sh) (V : Rf) (M : Mem) (x0 : Int32) (x1 : Int32) (r : Int32) (h : F_J9_max_7cf53 x0 x1 = some r) : Cal yJ9_max_7cf53 cJ9_max_7cf53 2 (some .int) 0 1 0 0 false [vI x0, vI x1] SH V M (eqp (vI r) SH V M) := by
  refine Cal.of (by decide +kernel) (Nat.le_of_ble_eq_true rfl) (fun h => by cases h) ?_
  unfold F_J9_max_7cf53 at h
  show T RJ9 cJ9_max_7cf53 2 (some .int) 0 1 0 0 false (eqp (vI r) SH V M) 0 [aI x0, aI x1] [] SH V M 0 0
  refine T_iload_n dJ9_max_7cf53_0 rfl ?_
  refine T_iload_n dJ9_max_7cf53_1 rfl ?_
  refine T_icmp_lt (tgt := 9) dJ9_max_7cf53_2 (by decide) (fun hc => ?_) (fun hc => ?_)
  · have h := it_pos hc h
    refine T_iload_n dJ9_max_7cf53_9 rfl ?_
    obtain rfl := sm1 h
    exact T_iret dJ9_max_7cf53_10 ⟨rfl, rfl, rfl, rfl⟩
  · have h := it_neg hc h
    refine T_iload_n dJ9_max_7cf53_5 rfl ?_
    refine T_goto (tgt := 10) dJ9_max_7cf53_6 (by decide) ?_
    obtain rfl := sm1 h
    exact T_iret dJ9_max_7cf53_10 ⟨rfl, rfl, rfl, rfl⟩
def F_J6_bitCount_0f7a4 (x0 : Int32) : Option (Int32) :=
 lett (x0 - ((ius x0 1) &&& 1431655765)) fun x_1 => lett ((x_1 &&& 858993459) + ((ius x_1 (nI 2)) &&& 858993459)) fun x_3 => lett ((x_3 + (ius x_3 (nI 4))) &&& 252645135) fun x_5 => lett (x_5 + (ius x_5 (nI 8))) fun x_7 => lett (x_7 + (ius x_7 (nI 16))) fun x_9 => some (x_9 &&& (nI 63))
set_option maxRecDepth 100000 in
set_option maxHeartbeats 4000000 in
theorem m_J6_bitCount_0f7a4 (SH : List Sh) (V : Rf) (M : Mem) (x0 : Int32) (r : Int32) (h : F_J6_bitCount_0f7a4 x0 = some r) : Cal yJ6_bitCount_0f7a4 cJ6_bitCount_0f7a4 1 (some .int) 0 1 0 0 false [vI x0] SH V M (eqp (vI r) SH V M) := by
  refine Cal.of (by decide +kernel) (Nat.le_of_ble_eq_true rfl) (fun h => by cases h) ?_
  unfold F_J6_bitCount_0f7a4 at h
  show T RJ6 cJ6_bitCount_0f7a4 1 (some .int) 0 1 0 0 false (eqp (vI r) SH V M) 0 [aI x0] [] SH V M 0 0
  refine T_iload_n dJ6_bitCount_0f7a4_0 rfl ?_
  refine T_iload_n dJ6_bitCount_0f7a4_1 rfl ?_
  refine T_iconst dJ6_bitCount_0f7a4_2 ic_1 ?_
  refine T_iushr dJ6_bitCount_0f7a4_3 ?_
  refine T_ldcw dJ6_bitCount_0f7a4_4 kc_J6_265 ?_
  refine T_iand dJ6_bitCount_0f7a4_7 ?_
  refine T_isub dJ6_bitCount_0f7a4_8 ?_
  obtain ⟨x_1, ex_2, h⟩ := lett_some h
  refine T_topI ex_2 ?_
  refine T_istore_n (i := 0) (L' := [aI x_1]) dJ6_bitCount_0f7a4_9 rfl (Nat.le_of_ble_eq_true rfl) rfl ?_
  refine T_iload_n dJ6_bitCount_0f7a4_10 rfl ?_
  refine T_ldcw dJ6_bitCount_0f7a4_11 kc_J6_266 ?_
  refine T_iand dJ6_bitCount_0f7a4_14 ?_
  refine T_iload_n dJ6_bitCount_0f7a4_15 rfl ?_
  refine T_iconst dJ6_bitCount_0f7a4_16 ic_2 ?_
  refine T_iushr dJ6_bitCount_0f7a4_17 ?_
  refine T_ldcw dJ6_bitCount_0f7a4_18 kc_J6_266 ?_
  refine T_iand dJ6_bitCount_0f7a4_21 ?_
  refine T_iadd dJ6_bitCount_0f7a4_22 ?_
  obtain ⟨x_3, ex_4, h⟩ := lett_some h
  refine T_topI ex_4 ?_
  refine T_istore_n (i := 0) (L' := [aI x_3]) dJ6_bitCount_0f7a4_23 rfl (Nat.le_of_ble_eq_true rfl) rfl ?_
  refine T_iload_n dJ6_bitCount_0f7a4_24 rfl ?_
  refine T_iload_n dJ6_bitCount_0f7a4_25 rfl ?_
  refine T_iconst dJ6_bitCount_0f7a4_26 ic_4 ?_
  refine T_iushr dJ6_bitCount_0f7a4_27 ?_
  refine T_iadd dJ6_bitCount_0f7a4_28 ?_
  refine T_ldcw dJ6_bitCount_0f7a4_29 kc_J6_267 ?_
  refine T_iand dJ6_bitCount_0f7a4_32 ?_
  obtain ⟨x_5, ex_6, h⟩ := lett_some h
  refine T_topI ex_6 ?_
  refine T_istore_n (i := 0) (L' := [aI x_5]) dJ6_bitCount_0f7a4_33 rfl (Nat.le_of_ble_eq_true rfl) rfl ?_
  refine T_iload_n dJ6_bitCount_0f7a4_34 rfl ?_
  refine T_iload_n dJ6_bitCount_0f7a4_35 rfl ?_
  refine T_bipush dJ6_bitCount_0f7a4_36 bp_8 ?_
  refine T_iushr dJ6_bitCount_0f7a4_38 ?_
  refine T_iadd dJ6_bitCount_0f7a4_39 ?_
  obtain ⟨x_7, ex_8, h⟩ := lett_some h
  refine T_topI ex_8 ?_
  refine T_istore_n (i := 0) (L' := [aI x_7]) dJ6_bitCount_0f7a4_40 rfl (Nat.le_of_ble_eq_true rfl) rfl ?_
  refine T_iload_n dJ6_bitCount_0f7a4_41 rfl ?_
  refine T_iload_n dJ6_bitCount_0f7a4_42 rfl ?_
  refine T_bipush dJ6_bitCount_0f7a4_43 bp_16 ?_
  refine T_iushr dJ6_bitCount_0f7a4_45 ?_
  refine T_iadd dJ6_bitCount_0f7a4_46 ?_
  obtain ⟨x_9, ex_10, h⟩ := lett_some h
  refine T_topI ex_10 ?_
  refine T_istore_n (i := 0) (L' := [aI x_9]) dJ6_bitCount_0f7a4_47 rfl (Nat.le_of_ble_eq_true rfl) rfl ?_
  refine T_iload_n dJ6_bitCount_0f7a4_48 rfl ?_
  refine T_bipush dJ6_bitCount_0f7a4_49 bp_63 ?_
  refine T_iand dJ6_bitCount_0f7a4_51 ?_
  obtain rfl := sm1 h
  exact T_iret dJ6_bitCount_0f7a4_52 ⟨rfl, rfl, rfl, rfl⟩
def F_J9_abs_067f4 (x0 : Int64) : Option (Int64) :=
 if 0 ≤ (lg_cmp x0 0) then some x0
 else some (-x0)
set_option maxRecDepth 100000 in
set_option maxHeartbeats 4000000 in
theorem m_J9_abs_067f4 (SH : List Sh) (V : Rf) (M : Mem) (x0 : Int64) (r : Int64) (h : F_J9_abs_067f4 x0 = some r) : Cal yJ9_abs_067f4 cJ9_abs_067f4 2 (some .long) 1 1 0 0 false [vJ x0] SH V M (eqp (vJ r) SH V M) := by
  refine Cal.of (by decide +kernel) (Nat.le_of_ble_eq_true rfl) (fun h => by cases h) ?_
  unfold F_J9_abs_067f4 at h
  show T RJ9 cJ9_abs_067f4 2 (some .long) 1 1 0 0 false (eqp (vJ r) SH V M) 0 [aJ x0, aU] [] SH V M 0 0
  refine T_lload_n dJ9_abs_067f4_0 rfl ?_
  refine T_lconst dJ9_abs_067f4_1 lc_0 ?_
  refine T_lcmp dJ9_abs_067f4_2 ?_
  refine T_if_ge (tgt := 11) dJ9_abs_067f4_3 (by decide) (fun hc => ?_) (fun hc => ?_)
  · have h := it_pos hc h
    refine T_lload_n dJ9_abs_067f4_11 rfl ?_
    obtain rfl := sm1 h
    exact T_lret dJ9_abs_067f4_12 ⟨rfl, rfl, rfl, rfl⟩
  · have h := it_neg hc h
    refine T_lload_n dJ9_abs_067f4_6 rfl ?_
    refine T_lneg dJ9_abs_067f4_7 ?_
    refine T_goto (tgt := 12) dJ9_abs_067f4_8 (by decide) ?_
    obtain rfl := sm1 h
    exact T_lret dJ9_abs_067f4_12 ⟨rfl, rfl, rfl, rfl⟩
def F_J9_abs_0f7a4 (x0 : Int32) : Option (Int32) :=
 if 0 ≤ x0 then some x0
 else some (-x0)
set_option maxRecDepth 100000 in
set_option maxHeartbeats 4000000 in
theorem m_J9_abs_0f7a4 (SH : List Sh) (V : Rf) (M : Mem) (x0 : Int32) (r : Int32) (h : F_J9_abs_0f7a4 x0 = some r) : Cal yJ9_abs_0f7a4 cJ9_abs_0f7a4 1 (some .int) 0 1 0 0 false [vI x0] SH V M (eqp (vI r) SH V M) := by
  refine Cal.of (by decide +kernel) (Nat.le_of_ble_eq_true rfl) (fun h => by cases h) ?_
  unfold F_J9_abs_0f7a4 at h
  show T RJ9 cJ9_abs_0f7a4 1 (some .int) 0 1 0 0 false (eqp (vI r) SH V M) 0 [aI x0] [] SH V M 0 0
  refine T_iload_n dJ9_abs_0f7a4_0 rfl ?_
  refine T_if_ge (tgt := 9) dJ9_abs_0f7a4_1 (by decide) (fun hc => ?_) (fun hc => ?_)
  · have h := it_pos hc h
    refine T_iload_n dJ9_abs_0f7a4_9 rfl ?_
    obtain rfl := sm1 h
    exact T_iret dJ9_abs_0f7a4_10 ⟨rfl, rfl, rfl, rfl⟩
  · have h := it_neg hc h
    refine T_iload_n dJ9_abs_0f7a4_4 rfl ?_
    refine T_ineg dJ9_abs_0f7a4_5 ?_
    refine T_goto (tgt := 10) dJ9_abs_0f7a4_6 (by decide) ?_
    obtain rfl := sm1 h
    exact T_iret dJ9_abs_0f7a4_10 ⟨rfl, rfl, rfl, rfl⟩
