def F_X9_in (x0 : Int32) (x1 : Int32) (x2 : Int32) : Option (Int32) :=
 if x0 < x1 then some 0
 else if x2 < x0 then some 0
 else some 1
set_option maxRecDepth 100000 in
set_option maxHeartbeats 4000000 in
theorem m_X9_in (M : Mem) (x0 : Int32) (x1 : Int32) (x2 : Int32) (r : Int32) (h : F_X9_in x0 x1 x2 = some r) : Cal yX9_in cX9_in 3 (some .boolean) 0 1 0 0 false [vI x0, vI x1, vI x2] LAYM rfm M (eqp (vI r) LAYM rfm M) := by
  refine Cal.of (by decide +kernel) (Nat.le_of_ble_eq_true rfl) (fun h => by cases h) ?_
  unfold F_X9_in at h
  show T RX9 cX9_in 3 (some .boolean) 0 1 0 0 false (eqp (vI r) LAYM rfm M) 0 [aI x0, aI x1, aI x2] [] LAYM rfm M 0 0
  refine T_iload_n dX9_in_0 rfl ?_
  refine T_iload_n dX9_in_1 rfl ?_
  refine T_icmp_lt (tgt := 14) dX9_in_2 (by decide) (fun hc => ?_) (fun hc => ?_)
  · have h := it_pos hc h
    refine T_iconst dX9_in_14 ic_0 ?_
    obtain rfl := sm1 h
    exact T_zret dX9_in_15 (Or.inl rfl) ⟨rfl, rfl, rfl, rfl⟩
  · have h := it_neg hc h
    refine T_iload_n dX9_in_5 rfl ?_
    refine T_iload_n dX9_in_6 rfl ?_
    refine T_icmp_gt (tgt := 14) dX9_in_7 (by decide) (fun hc => ?_) (fun hc => ?_)
    · have h := it_pos hc h
      refine T_iconst dX9_in_14 ic_0 ?_
      obtain rfl := sm1 h
      exact T_zret dX9_in_15 (Or.inl rfl) ⟨rfl, rfl, rfl, rfl⟩
    · have h := it_neg hc h
      refine T_iconst dX9_in_10 ic_1 ?_
      refine T_goto (tgt := 15) dX9_in_11 (by decide) ?_
      obtain rfl := sm1 h
      exact T_zret dX9_in_15 (Or.inr rfl) ⟨rfl, rfl, rfl, rfl⟩
def F_X9_meet (M : Mem) (x1 : Int32) : Option (Int32 × Mem) :=
 lett (sI M 0 0 x1) fun M_1 => chk (inb x1 6 = true) (chk (inb x1 6 = true) (lett (sI M_1 1 x1.toNatClampNeg ((gI M_1 1 x1.toNatClampNeg) + 1)) fun M_4 => some ((-3), M_4)))
set_option maxRecDepth 100000 in
set_option maxHeartbeats 4000000 in
theorem m_X9_meet (M : Mem) (x1 : Int32) (r : Int32) (M' : Mem) (h : F_X9_meet M x1 = some (r, M')) : Cal yX9_meet cX9_meet 2 (some .int) 0 1 0 0 false [vR (some 0), vI x1] LAYM rfm M (eqp (vI r) LAYM rfm M') := by
  refine Cal.of (by decide +kernel) (Nat.le_of_ble_eq_true rfl) (fun h => by cases h) ?_
  unfold F_X9_meet at h
  show T RX9 cX9_meet 2 (some .int) 0 1 0 0 false (eqp (vI r) LAYM rfm M') 0 [aR (some 0), aI x1] [] LAYM rfm M 0 0
  refine T_aload_n dX9_meet_0 rfl ?_
  refine T_iload_n dX9_meet_1 rfl ?_
  obtain ⟨M_1, eM_2, h⟩ := lett_some h
  refine T_putI dX9_meet_2 clOK_X9 fl_X9_69 (Or.inl rfl) lyM_0 rfl rfl eM_2 ?_
  refine T_aload_n dX9_meet_5 rfl ?_
  refine T_getR dX9_meet_6 clOK_X9 fl_X9_7 lyM_0 rfl rfl ?_
  refine T_iload_n dX9_meet_9 rfl ?_
  refine T_dup2_11 dX9_meet_10 rfl rfl ?_
  obtain ⟨hi_3, h⟩ := chk_some h
  refine T_iald dX9_meet_11 lyM_1 (inb_in hi_3) ?_
  refine T_iconst dX9_meet_12 ic_1 ?_
  refine T_iadd dX9_meet_13 ?_
  obtain ⟨hi_6, h⟩ := chk_some h
  obtain ⟨M_4, eM_5, h⟩ := lett_some h
  refine T_iast dX9_meet_14 lyM_1 (inb_in hi_6) eM_5 ?_
  refine T_bipush dX9_meet_15 bp_m3 ?_
  obtain ⟨rfl, rfl⟩ := sm2 h
  exact T_iret dX9_meet_17 ⟨rfl, rfl, rfl, rfl⟩
def F_X9_ask (M : Mem) (x1 : Int32) (x2 : Int32) : Option (Int32 × Mem) :=
 lett (sI M 0 2 x1) fun M_1 => some (x2, M_1)
set_option maxRecDepth 100000 in
set_option maxHeartbeats 4000000 in
theorem m_X9_ask (M : Mem) (x1 : Int32) (x2 : Int32) (r : Int32) (M' : Mem) (h : F_X9_ask M x1 x2 = some (r, M')) : Cal yX9_ask cX9_ask 3 (some .int) 0 1 0 0 false [vR (some 0), vI x1, vI x2] LAYM rfm M (eqp (vI r) LAYM rfm M') := by
  refine Cal.of (by decide +kernel) (Nat.le_of_ble_eq_true rfl) (fun h => by cases h) ?_
  unfold F_X9_ask at h
  show T RX9 cX9_ask 3 (some .int) 0 1 0 0 false (eqp (vI r) LAYM rfm M') 0 [aR (some 0), aI x1, aI x2] [] LAYM rfm M 0 0
  refine T_aload_n dX9_ask_0 rfl ?_
  refine T_iload_n dX9_ask_1 rfl ?_
  obtain ⟨M_1, eM_2, h⟩ := lett_some h
  refine T_putI dX9_ask_2 clOK_X9 fl_X9_73 (Or.inl rfl) lyM_0 rfl rfl eM_2 ?_
  refine T_iload_n dX9_ask_5 rfl ?_
  obtain ⟨rfl, rfl⟩ := sm2 h
  exact T_iret dX9_ask_6 ⟨rfl, rfl, rfl, rfl⟩
def F_X9_has (x0 : Int32) (x1 : Int32) : Option (Int32) :=
 if ((isr x0 x1) &&& 1) = 1 then some 1
 else some 0
set_option maxRecDepth 100000 in
set_option maxHeartbeats 4000000 in
theorem m_X9_has (M : Mem) (x0 : Int32) (x1 : Int32) (r : Int32) (h : F_X9_has x0 x1 = some r) : Cal yX9_has cX9_has 2 (some .boolean) 0 1 0 0 false [vI x0, vI x1] LAYM rfm M (eqp (vI r) LAYM rfm M) := by
  refine Cal.of (by decide +kernel) (Nat.le_of_ble_eq_true rfl) (fun h => by cases h) ?_
  unfold F_X9_has at h
  show T RX9 cX9_has 2 (some .boolean) 0 1 0 0 false (eqp (vI r) LAYM rfm M) 0 [aI x0, aI x1] [] LAYM rfm M 0 0
  refine T_iload_n dX9_has_0 rfl ?_
  refine T_iload_n dX9_has_1 rfl ?_
  refine T_ishr dX9_has_2 ?_
  refine T_iconst dX9_has_3 ic_1 ?_
  refine T_iand dX9_has_4 ?_
  refine T_iconst dX9_has_5 ic_1 ?_
  refine T_icmp_ne (tgt := 13) dX9_has_6 (by decide) (fun hc => ?_) (fun hc => ?_)
  · have h := it_neg hc h
    refine T_iconst dX9_has_13 ic_0 ?_
    obtain rfl := sm1 h
    exact T_zret dX9_has_14 (Or.inl rfl) ⟨rfl, rfl, rfl, rfl⟩
  · have h := it_pos hc h
    refine T_iconst dX9_has_9 ic_1 ?_
    refine T_goto (tgt := 14) dX9_has_10 (by decide) ?_
    obtain rfl := sm1 h
    exact T_zret dX9_has_14 (Or.inr rfl) ⟨rfl, rfl, rfl, rfl⟩
def X9_sizeOf_L4 (x0 : Int32) : Int32 × Int32 → Option ((Int32 × Int32) ⊕ (Int32))
  | (x1, x2) =>
    if (nI 16) ≤ x2 then some (.inr x1)
    else lett (x1 + ((isr x0 x2) &&& 1)) fun x_1 => lett (x2 + 1) fun x_3 => some (.inl (x_1, x_3))
def F_X9_sizeOf (x0 : Int32) : Option (Int32) :=
 loop (X9_sizeOf_L4 x0) FU (0, 0)
set_option maxRecDepth 100000 in
set_option maxHeartbeats 4000000 in
theorem s_X9_sizeOf_L4 (M : Mem) (x0 : Int32) (x1 : Int32) (x2 : Int32) {Po : Po_} (x : (Int32 × Int32) ⊕ (Int32)) (h : X9_sizeOf_L4 x0 (x1, x2) = some x) (hI : ∀ (ix1 : Int32) (ix2 : Int32), x = .inl (ix1, ix2) → T RX9 cX9_sizeOf 3 (some .int) 0 1 0 0 false Po 4 [aI x0, aI ix1, aI ix2] [] LAYM rfm M 0 0) (hE0 : ∀ (er : Int32), x = .inr er → Po (vI er) LAYM rfm M) : T RX9 cX9_sizeOf 3 (some .int) 0 1 0 0 false Po 4 [aI x0, aI x1, aI x2] [] LAYM rfm M 0 0 := by
  unfold X9_sizeOf_L4 at h
  simp only at h
  refine T_iload_n dX9_sizeOf_4 rfl ?_
  refine T_bipush dX9_sizeOf_5 bp_16 ?_
  refine T_icmp_ge (tgt := 24) dX9_sizeOf_7 (by decide) (fun hc => ?_) (fun hc => ?_)
  · have h := it_pos hc h
    refine T_iload_n dX9_sizeOf_24 rfl ?_
    obtain rfl := sm1 h
    exact T_iret dX9_sizeOf_25 (hE0 _ rfl)
  · have h := it_neg hc h
    refine T_iload_n dX9_sizeOf_10 rfl ?_
    refine T_iload_n dX9_sizeOf_11 rfl ?_
    refine T_iload_n dX9_sizeOf_12 rfl ?_
    refine T_ishr dX9_sizeOf_13 ?_
    refine T_iconst dX9_sizeOf_14 ic_1 ?_
    refine T_iand dX9_sizeOf_15 ?_
    refine T_iadd dX9_sizeOf_16 ?_
    obtain ⟨x_1, ex_2, h⟩ := lett_some h
    refine T_topI ex_2 ?_
    refine T_istore_n (i := 1) (L' := [aI x0, aI x_1, aI x2]) dX9_sizeOf_17 rfl (Nat.le_of_ble_eq_true rfl) rfl ?_
    obtain ⟨x_3, ex_4, h⟩ := lett_some h
    refine T_iinc (L' := [aI x0, aI x_1, aI x_3]) dX9_sizeOf_18 rfl (ic_inc ic_1 ex_4) (Nat.le_of_ble_eq_true rfl) rfl ?_
    refine T_goto (tgt := 4) dX9_sizeOf_21 (by decide) ?_
    obtain rfl := sm1 h
    exact hI _ _ rfl
set_option maxRecDepth 100000 in
set_option maxHeartbeats 4000000 in
theorem l_X9_sizeOf_L4 (M : Mem) (x0 : Int32) {Po : Po_} (er : Int32) : ∀ (k : Nat) (x1 : Int32) (x2 : Int32), loop (X9_sizeOf_L4 x0) k (x1, x2) = some er → (Po (vI er) LAYM rfm M) → T RX9 cX9_sizeOf 3 (some .int) 0 1 0 0 false Po 4 [aI x0, aI x1, aI x2] [] LAYM rfm M 0 0 := by
  intro k
  induction k with
  | zero => intro x1 x2 h; cases h
  | succ k ih =>
    intro x1 x2 h hE
    obtain ⟨x, hx, hx1, hx2⟩ := loop_succ h
    exact s_X9_sizeOf_L4  M x0  x1 x2 x hx (fun q0 q1 e => ih q0 q1 (hx1 _ e) hE) (fun q0 e => by cases hx2 _ e; exact hE)
set_option maxRecDepth 100000 in
set_option maxHeartbeats 4000000 in
theorem m_X9_sizeOf (M : Mem) (x0 : Int32) (r : Int32) (h : F_X9_sizeOf x0 = some r) : Cal yX9_sizeOf cX9_sizeOf 3 (some .int) 0 1 0 0 false [vI x0] LAYM rfm M (eqp (vI r) LAYM rfm M) := by
  refine Cal.of (by decide +kernel) (Nat.le_of_ble_eq_true rfl) (fun h => by cases h) ?_
  unfold F_X9_sizeOf at h
  show T RX9 cX9_sizeOf 3 (some .int) 0 1 0 0 false (eqp (vI r) LAYM rfm M) 0 [aI x0, aU, aU] [] LAYM rfm M 0 0
  refine T_iconst dX9_sizeOf_0 ic_0 ?_
  refine T_istore_n (i := 1) (L' := [aI x0, aI 0, aU]) dX9_sizeOf_1 rfl (Nat.le_of_ble_eq_true rfl) rfl ?_
  refine T_iconst dX9_sizeOf_2 ic_0 ?_
  refine T_istore_n (i := 2) (L' := [aI x0, aI 0, aI 0]) dX9_sizeOf_3 rfl (Nat.le_of_ble_eq_true rfl) rfl ?_
  exact l_X9_sizeOf_L4  M x0  _ FU 0 0 h ⟨rfl, rfl, rfl, rfl⟩
def F_X9_greater (x0 : Int32) (x1 : Int32) : Option (Int32) :=
 if x0 ≤ x1 then some x1
 else some x0
set_option maxRecDepth 100000 in
set_option maxHeartbeats 4000000 in
theorem m_X9_greater (M : Mem) (x0 : Int32) (x1 : Int32) (r : Int32) (h : F_X9_greater x0 x1 = some r) : Cal yX9_greater cX9_greater 2 (some .int) 0 1 0 0 false [vI x0, vI x1] LAYM rfm M (eqp (vI r) LAYM rfm M) := by
  refine Cal.of (by decide +kernel) (Nat.le_of_ble_eq_true rfl) (fun h => by cases h) ?_
  unfold F_X9_greater at h
  show T RX9 cX9_greater 2 (some .int) 0 1 0 0 false (eqp (vI r) LAYM rfm M) 0 [aI x0, aI x1] [] LAYM rfm M 0 0
  refine T_iload_n dX9_greater_0 rfl ?_
  refine T_iload_n dX9_greater_1 rfl ?_
  refine T_icmp_le (tgt := 9) dX9_greater_2 (by decide) (fun hc => ?_) (fun hc => ?_)
  · have h := it_pos hc h
    refine T_iload_n dX9_greater_9 rfl ?_
    obtain rfl := sm1 h
    exact T_iret dX9_greater_10 ⟨rfl, rfl, rfl, rfl⟩
  · have h := it_neg hc h
    refine T_iload_n dX9_greater_5 rfl ?_
    refine T_goto (tgt := 10) dX9_greater_6 (by decide) ?_
    obtain rfl := sm1 h
    exact T_iret dX9_greater_10 ⟨rfl, rfl, rfl, rfl⟩
def X9_part_L6 (M : Mem) (x1 : Int64) (x3 : Int64) : Int64 × Int64 → Option ((Int64 × Int64) ⊕ (Int32 × Mem))
  | (x5, x7) =>
    if (lg_cmp x7 0) = 0 then chk (¬ x5 = 0) (lett (sJ M 0 3 (x1 / x5)) fun M_2 => chk (¬ x5 = 0) (lett (sJ M_2 0 4 (x3 / x5)) fun M_5 => some (.inr (1, M_5))))
    else chk (¬ x7 = 0) (lett (lrm x5 x7) fun x_8 => some (.inl (x7, x_8)))
def F_X9_part (M : Mem) (x1 : Int64) (x3 : Int64) : Option (Int32 × Mem) :=
 loop (X9_part_L6 M x1 x3) FU (x1, x3)
set_option maxRecDepth 100000 in
set_option maxHeartbeats 4000000 in
theorem s_X9_part_L6 (M : Mem) (x1 : Int64) (x3 : Int64) (x5 : Int64) (x7 : Int64) {Po : Po_} (x : (Int64 × Int64) ⊕ (Int32 × Mem)) (h : X9_part_L6 M x1 x3 (x5, x7) = some x) (hI : ∀ (ix5 : Int64) (ix7 : Int64), x = .inl (ix5, ix7) → T RX9 cX9_part 11 (some .int) 0 1 0 0 false Po 6 [aR (some 0), aJ x1, aU, aJ x3, aU, aJ ix5, aU, aJ ix7, aU, aU, aU] [] LAYM rfm M 0 0) (hE0 : ∀ (er : Int32) (eM : Mem), x = .inr (er, eM) → Po (vI er) LAYM rfm eM) : T RX9 cX9_part 11 (some .int) 0 1 0 0 false Po 6 [aR (some 0), aJ x1, aU, aJ x3, aU, aJ x5, aU, aJ x7, aU, aU, aU] [] LAYM rfm M 0 0 := by
  unfold X9_part_L6 at h
  simp only at h
  refine T_lload dX9_part_6 rfl ?_
  refine T_lconst dX9_part_8 lc_0 ?_
  refine T_lcmp dX9_part_9 ?_
  refine T_if_eq (tgt := 31) dX9_part_10 (by decide) (fun hc => ?_) (fun hc => ?_)
  · have h := it_pos hc h
    refine T_aload_n dX9_part_31 rfl ?_
    refine T_lload_n dX9_part_32 rfl ?_
    refine T_lload dX9_part_33 rfl ?_
    obtain ⟨hz_1, h⟩ := chk_some h
    refine T_ldiv dX9_part_35 hz_1 ?_
    obtain ⟨M_2, eM_3, h⟩ := lett_some h
    refine T_putJ dX9_part_36 clOK_X9 fl_X9_76 (Or.inl rfl) lyM_0 rfl rfl eM_3 ?_
    refine T_aload_n dX9_part_39 rfl ?_
    refine T_lload_n dX9_part_40 rfl ?_
    refine T_lload dX9_part_41 rfl ?_
    obtain ⟨hz_4, h⟩ := chk_some h
    refine T_ldiv dX9_part_43 hz_4 ?_
    obtain ⟨M_5, eM_6, h⟩ := lett_some h
    refine T_putJ dX9_part_44 clOK_X9 fl_X9_13 (Or.inl rfl) lyM_0 rfl rfl eM_6 ?_
    refine T_iconst dX9_part_47 ic_1 ?_
    obtain rfl := sm1 h
    exact T_iret dX9_part_48 (hE0 _ _ rfl)
  · have h := it_neg hc h
    refine T_lload dX9_part_13 rfl ?_
    refine T_lload dX9_part_15 rfl ?_
    obtain ⟨hz_7, h⟩ := chk_some h
    refine T_lrem dX9_part_17 hz_7 ?_
    obtain ⟨x_8, ex_9, h⟩ := lett_some h
    refine T_topJ ex_9 ?_
    refine T_lstore (i := 9) (L' := [aR (some 0), aJ x1, aU, aJ x3, aU, aJ x5, aU, aJ x7, aU, aJ x_8, aU]) dX9_part_18 (Nat.le_of_ble_eq_true rfl) rfl ?_
    refine T_lload dX9_part_20 rfl ?_
    refine T_lstore (i := 5) (L' := [aR (some 0), aJ x1, aU, aJ x3, aU, aJ x7, aU, aJ x7, aU, aJ x_8, aU]) dX9_part_22 (Nat.le_of_ble_eq_true rfl) rfl ?_
    refine T_lload dX9_part_24 rfl ?_
    refine T_lstore (i := 7) (L' := [aR (some 0), aJ x1, aU, aJ x3, aU, aJ x7, aU, aJ x_8, aU, aJ x_8, aU]) dX9_part_26 (Nat.le_of_ble_eq_true rfl) rfl ?_
    refine T_goto (tgt := 6) dX9_part_28 (by decide) ?_
    obtain rfl := sm1 h
    refine T_mask [true, true, true, true, true, true, true, true, true, false, true] rfl ?_
    exact hI _ _ rfl
set_option maxRecDepth 100000 in
set_option maxHeartbeats 4000000 in
theorem l_X9_part_L6 (M : Mem) (x1 : Int64) (x3 : Int64) {Po : Po_} (er : Int32) (eM : Mem) : ∀ (k : Nat) (x5 : Int64) (x7 : Int64), loop (X9_part_L6 M x1 x3) k (x5, x7) = some (er, eM) → (Po (vI er) LAYM rfm eM) → T RX9 cX9_part 11 (some .int) 0 1 0 0 false Po 6 [aR (some 0), aJ x1, aU, aJ x3, aU, aJ x5, aU, aJ x7, aU, aU, aU] [] LAYM rfm M 0 0 := by
  intro k
  induction k with
  | zero => intro x5 x7 h; cases h
  | succ k ih =>
    intro x5 x7 h hE
    obtain ⟨x, hx, hx1, hx2⟩ := loop_succ h
    exact s_X9_part_L6  M x1 x3  x5 x7 x hx (fun q0 q1 e => ih q0 q1 (hx1 _ e) hE) (fun q0 q1 e => by cases hx2 _ e; exact hE)
set_option maxRecDepth 100000 in
set_option maxHeartbeats 4000000 in
theorem m_X9_part (M : Mem) (x1 : Int64) (x3 : Int64) (r : Int32) (M' : Mem) (h : F_X9_part M x1 x3 = some (r, M')) : Cal yX9_part cX9_part 11 (some .int) 0 1 0 0 false [vR (some 0), vJ x1, vJ x3] LAYM rfm M (eqp (vI r) LAYM rfm M') := by
  refine Cal.of (by decide +kernel) (Nat.le_of_ble_eq_true rfl) (fun h => by cases h) ?_
  unfold F_X9_part at h
  show T RX9 cX9_part 11 (some .int) 0 1 0 0 false (eqp (vI r) LAYM rfm M') 0 [aR (some 0), aJ x1, aU, aJ x3, aU, aU, aU, aU, aU, aU, aU] [] LAYM rfm M 0 0
  refine T_lload_n dX9_part_0 rfl ?_
  refine T_lstore (i := 5) (L' := [aR (some 0), aJ x1, aU, aJ x3, aU, aJ x1, aU, aU, aU, aU, aU]) dX9_part_1 (Nat.le_of_ble_eq_true rfl) rfl ?_
  refine T_lload_n dX9_part_3 rfl ?_
  refine T_lstore (i := 7) (L' := [aR (some 0), aJ x1, aU, aJ x3, aU, aJ x1, aU, aJ x3, aU, aU, aU]) dX9_part_4 (Nat.le_of_ble_eq_true rfl) rfl ?_
  exact l_X9_part_L6  M x1 x3  _ _ FU x1 x3 h ⟨rfl, rfl, rfl, rfl⟩
def F_X9_isRow (x0 : Int32) : Option (Int32) :=
 bd1 (F_X9_in x0 0 (nI 5)) fun r_1 => chk (r_1 = 0 ∨ r_1 = 1) (some r_1)
set_option maxRecDepth 100000 in
set_option maxHeartbeats 4000000 in
theorem m_X9_isRow (M : Mem) (x0 : Int32) (r : Int32) (h : F_X9_isRow x0 = some r) : Cal yX9_isRow cX9_isRow 1 (some .boolean) 0 2 0 0 false [vI x0] LAYM rfm M (eqp (vI r) LAYM rfm M) := by
  refine Cal.of (by decide +kernel) (Nat.le_of_ble_eq_true rfl) (fun h => by cases h) ?_
  unfold F_X9_isRow at h
  show T RX9 cX9_isRow 1 (some .boolean) 0 2 0 0 false (eqp (vI r) LAYM rfm M) 0 [aI x0] [] LAYM rfm M 0 0
  refine T_iload_n dX9_isRow_0 rfl ?_
  refine T_iconst dX9_isRow_1 ic_0 ?_
  refine T_iconst dX9_isRow_2 ic_5 ?_
  obtain ⟨r_1, hc_2, h⟩ := bd1_some h
  refine T_csi (as := [vI x0, vI 0, vI (nI 5)]) dX9_isRow_3 cw_X9_in ml_X9_79 mt_X9_in rfl (Nat.le_of_ble_eq_true rfl) (Nat.le_of_ble_eq_true rfl) (m_X9_in M x0 0 (nI 5)  _ hc_2) ?_
  obtain ⟨hb_3, h⟩ := chk_some h
  obtain rfl := sm1 h
  exact T_zret dX9_isRow_6 hb_3 ⟨rfl, rfl, rfl, rfl⟩
def F_X9_isText (x0 : Int32) : Option (Int32) :=
 bd1 (F_X9_in x0 0 (nI 3)) fun r_1 => chk (r_1 = 0 ∨ r_1 = 1) (some r_1)
set_option maxRecDepth 100000 in
set_option maxHeartbeats 4000000 in
theorem m_X9_isText (M : Mem) (x0 : Int32) (r : Int32) (h : F_X9_isText x0 = some r) : Cal yX9_isText cX9_isText 1 (some .boolean) 0 2 0 0 false [vI x0] LAYM rfm M (eqp (vI r) LAYM rfm M) := by
  refine Cal.of (by decide +kernel) (Nat.le_of_ble_eq_true rfl) (fun h => by cases h) ?_
  unfold F_X9_isText at h
  show T RX9 cX9_isText 1 (some .boolean) 0 2 0 0 false (eqp (vI r) LAYM rfm M) 0 [aI x0] [] LAYM rfm M 0 0
  refine T_iload_n dX9_isText_0 rfl ?_
  refine T_iconst dX9_isText_1 ic_0 ?_
  refine T_iconst dX9_isText_2 ic_3 ?_
  obtain ⟨r_1, hc_2, h⟩ := bd1_some h
  refine T_csi (as := [vI x0, vI 0, vI (nI 3)]) dX9_isText_3 cw_X9_in ml_X9_79 mt_X9_in rfl (Nat.le_of_ble_eq_true rfl) (Nat.le_of_ble_eq_true rfl) (m_X9_in M x0 0 (nI 3)  _ hc_2) ?_
  obtain ⟨hb_3, h⟩ := chk_some h
  obtain rfl := sm1 h
  exact T_zret dX9_isText_6 hb_3 ⟨rfl, rfl, rfl, rfl⟩
def F_X9_askedRow (M : Mem) (x1 : Int32) : Option (Int32 × Mem) :=
 bd1 (F_X9_isRow x1) fun r_1 => if r_1 = 0 then some ((-1), M)
 else chk (inb x1 6 = true) (if 0 ≤ (gI M 2 x1.toNatClampNeg) then some (0, M)
 else bd2 (F_X9_meet M 1) fun r_4 M_5 => some (r_4, M_5))
set_option maxRecDepth 100000 in
set_option maxHeartbeats 4000000 in
theorem m_X9_askedRow (M : Mem) (x1 : Int32) (r : Int32) (M' : Mem) (h : F_X9_askedRow M x1 = some (r, M')) : Cal yX9_askedRow cX9_askedRow 2 (some .int) 0 3 0 0 false [vR (some 0), vI x1] LAYM rfm M (eqp (vI r) LAYM rfm M') := by
  refine Cal.of (by decide +kernel) (Nat.le_of_ble_eq_true rfl) (fun h => by cases h) ?_
  unfold F_X9_askedRow at h
  show T RX9 cX9_askedRow 2 (some .int) 0 3 0 0 false (eqp (vI r) LAYM rfm M') 0 [aR (some 0), aI x1] [] LAYM rfm M 0 0
  refine T_iload_n dX9_askedRow_0 rfl ?_
  obtain ⟨r_1, hc_2, h⟩ := bd1_some h
  refine T_csi (as := [vI x1]) dX9_askedRow_1 cw_X9_isRow ml_X9_83 mt_X9_isRow rfl (Nat.le_of_ble_eq_true rfl) (Nat.le_of_ble_eq_true rfl) (m_X9_isRow M x1  _ hc_2) ?_
  refine T_if_ne (tgt := 11) dX9_askedRow_4 (by decide) (fun hc => ?_) (fun hc => ?_)
  · have h := it_neg hc h
    refine T_aload_n dX9_askedRow_11 rfl ?_
    refine T_getR dX9_askedRow_12 clOK_X9 fl_X9_17 lyM_0 rfl rfl ?_
    refine T_iload_n dX9_askedRow_15 rfl ?_
    obtain ⟨hi_3, h⟩ := chk_some h
    refine T_iald dX9_askedRow_16 lyM_2 (inb_in hi_3) ?_
    refine T_if_ge (tgt := 28) dX9_askedRow_17 (by decide) (fun hc => ?_) (fun hc => ?_)
    · have h := it_pos hc h
      refine T_iconst dX9_askedRow_28 ic_0 ?_
      obtain ⟨rfl, rfl⟩ := sm2 h
      exact T_iret dX9_askedRow_29 ⟨rfl, rfl, rfl, rfl⟩
    · have h := it_neg hc h
      refine T_aload_n dX9_askedRow_20 rfl ?_
      refine T_iconst dX9_askedRow_21 ic_1 ?_
      obtain ⟨r_4, M_5, hc_6, h⟩ := bd2_some h
      refine T_cvi (as := [vI 1]) dX9_askedRow_22 cw_X9_meet ml_X9_87 mi_X9_meet se_X9_meet lyM_0 rfl (by decide) rfl (Nat.le_of_ble_eq_true rfl) (Nat.le_of_ble_eq_true rfl) (m_X9_meet  M 1  _ _ hc_6) ?_
      refine T_goto (tgt := 29) dX9_askedRow_25 (by decide) ?_
      obtain ⟨rfl, rfl⟩ := sm2 h
      exact T_iret dX9_askedRow_29 ⟨rfl, rfl, rfl, rfl⟩
  · have h := it_pos hc h
    refine T_iconst dX9_askedRow_7 ic_m1 ?_
    refine T_goto (tgt := 29) dX9_askedRow_8 (by decide) ?_
    obtain ⟨rfl, rfl⟩ := sm2 h
    exact T_iret dX9_askedRow_29 ⟨rfl, rfl, rfl, rfl⟩
def F_X9_askedText (M : Mem) (x1 : Int32) : Option (Int32 × Mem) :=
 bd1 (F_X9_isText x1) fun r_1 => if r_1 = 0 then some ((-1), M)
 else chk (inb x1 4 = true) (if 0 ≤ (gI M 5 x1.toNatClampNeg) then some (0, M)
 else bd2 (F_X9_meet M 1) fun r_4 M_5 => some (r_4, M_5))
set_option maxRecDepth 100000 in
set_option maxHeartbeats 4000000 in
theorem m_X9_askedText (M : Mem) (x1 : Int32) (r : Int32) (M' : Mem) (h : F_X9_askedText M x1 = some (r, M')) : Cal yX9_askedText cX9_askedText 2 (some .int) 0 3 0 0 false [vR (some 0), vI x1] LAYM rfm M (eqp (vI r) LAYM rfm M') := by
  refine Cal.of (by decide +kernel) (Nat.le_of_ble_eq_true rfl) (fun h => by cases h) ?_
  unfold F_X9_askedText at h
  show T RX9 cX9_askedText 2 (some .int) 0 3 0 0 false (eqp (vI r) LAYM rfm M') 0 [aR (some 0), aI x1] [] LAYM rfm M 0 0
  refine T_iload_n dX9_askedText_0 rfl ?_
  obtain ⟨r_1, hc_2, h⟩ := bd1_some h
  refine T_csi (as := [vI x1]) dX9_askedText_1 cw_X9_isText ml_X9_91 mt_X9_isText rfl (Nat.le_of_ble_eq_true rfl) (Nat.le_of_ble_eq_true rfl) (m_X9_isText M x1  _ hc_2) ?_
  refine T_if_ne (tgt := 11) dX9_askedText_4 (by decide) (fun hc => ?_) (fun hc => ?_)
  · have h := it_neg hc h
    refine T_aload_n dX9_askedText_11 rfl ?_
    refine T_getR dX9_askedText_12 clOK_X9 fl_X9_26 lyM_0 rfl rfl ?_
    refine T_iload_n dX9_askedText_15 rfl ?_
    obtain ⟨hi_3, h⟩ := chk_some h
    refine T_iald dX9_askedText_16 lyM_5 (inb_in hi_3) ?_
    refine T_if_ge (tgt := 28) dX9_askedText_17 (by decide) (fun hc => ?_) (fun hc => ?_)
    · have h := it_pos hc h
      refine T_iconst dX9_askedText_28 ic_0 ?_
      obtain ⟨rfl, rfl⟩ := sm2 h
      exact T_iret dX9_askedText_29 ⟨rfl, rfl, rfl, rfl⟩
    · have h := it_neg hc h
      refine T_aload_n dX9_askedText_20 rfl ?_
      refine T_iconst dX9_askedText_21 ic_1 ?_
      obtain ⟨r_4, M_5, hc_6, h⟩ := bd2_some h
      refine T_cvi (as := [vI 1]) dX9_askedText_22 cw_X9_meet ml_X9_87 mi_X9_meet se_X9_meet lyM_0 rfl (by decide) rfl (Nat.le_of_ble_eq_true rfl) (Nat.le_of_ble_eq_true rfl) (m_X9_meet  M 1  _ _ hc_6) ?_
      refine T_goto (tgt := 29) dX9_askedText_25 (by decide) ?_
      obtain ⟨rfl, rfl⟩ := sm2 h
      exact T_iret dX9_askedText_29 ⟨rfl, rfl, rfl, rfl⟩
  · have h := it_pos hc h
    refine T_iconst dX9_askedText_7 ic_m1 ?_
    refine T_goto (tgt := 29) dX9_askedText_8 (by decide) ?_
    obtain ⟨rfl, rfl⟩ := sm2 h
    exact T_iret dX9_askedText_29 ⟨rfl, rfl, rfl, rfl⟩
def F_X9_rowAt (M : Mem) (x1 : Int32) (x2 : Int32) : Option (Int32) :=
 chk (inb (((nI 40) * x1) + x2) 240 = true) (some (gI M 3 (((nI 40) * x1) + x2).toNatClampNeg))
set_option maxRecDepth 100000 in
set_option maxHeartbeats 4000000 in
theorem m_X9_rowAt (M : Mem) (x1 : Int32) (x2 : Int32) (r : Int32) (h : F_X9_rowAt M x1 x2 = some r) : Cal yX9_rowAt cX9_rowAt 3 (some .int) 0 1 0 0 false [vR (some 0), vI x1, vI x2] LAYM rfm M (eqp (vI r) LAYM rfm M) := by
  refine Cal.of (by decide +kernel) (Nat.le_of_ble_eq_true rfl) (fun h => by cases h) ?_
  unfold F_X9_rowAt at h
  show T RX9 cX9_rowAt 3 (some .int) 0 1 0 0 false (eqp (vI r) LAYM rfm M) 0 [aR (some 0), aI x1, aI x2] [] LAYM rfm M 0 0
  refine T_aload_n dX9_rowAt_0 rfl ?_
  refine T_getR dX9_rowAt_1 clOK_X9 fl_X9_20 lyM_0 rfl rfl ?_
  refine T_bipush dX9_rowAt_4 bp_40 ?_
  refine T_iload_n dX9_rowAt_6 rfl ?_
  refine T_imul dX9_rowAt_7 ?_
  refine T_iload_n dX9_rowAt_8 rfl ?_
  refine T_iadd dX9_rowAt_9 ?_
  obtain ⟨hi_1, h⟩ := chk_some h
  refine T_iald dX9_rowAt_10 lyM_3 (inb_in hi_1) ?_
  obtain rfl := sm1 h
  exact T_iret dX9_rowAt_11 ⟨rfl, rfl, rfl, rfl⟩
def F_X9_setRow (M : Mem) (x1 : Int32) (x2 : Int32) (x3 : Int32) : Option (Mem) :=
 chk (inb (((nI 40) * x1) + x2) 240 = true) (lett (sI M 3 (((nI 40) * x1) + x2).toNatClampNeg x3) fun M_1 => some M_1)
set_option maxRecDepth 100000 in
set_option maxHeartbeats 4000000 in
theorem m_X9_setRow (M : Mem) (x1 : Int32) (x2 : Int32) (x3 : Int32) (M' : Mem) (h : F_X9_setRow M x1 x2 x3 = some M') : Cal yX9_setRow cX9_setRow 4 none 2 1 0 0 false [vR (some 0), vI x1, vI x2, vI x3] LAYM rfm M (eqp (vI 0) LAYM rfm M') := by
  refine Cal.of (by decide +kernel) (Nat.le_of_ble_eq_true rfl) (fun h => by cases h) ?_
  unfold F_X9_setRow at h
  show T RX9 cX9_setRow 4 none 2 1 0 0 false (eqp (vI 0) LAYM rfm M') 0 [aR (some 0), aI x1, aI x2, aI x3] [] LAYM rfm M 0 0
  refine T_aload_n dX9_setRow_0 rfl ?_
  refine T_getR dX9_setRow_1 clOK_X9 fl_X9_20 lyM_0 rfl rfl ?_
  refine T_bipush dX9_setRow_4 bp_40 ?_
  refine T_iload_n dX9_setRow_6 rfl ?_
  refine T_imul dX9_setRow_7 ?_
  refine T_iload_n dX9_setRow_8 rfl ?_
  refine T_iadd dX9_setRow_9 ?_
  refine T_iload_n dX9_setRow_10 rfl ?_
  obtain ⟨hi_3, h⟩ := chk_some h
  obtain ⟨M_1, eM_2, h⟩ := lett_some h
  refine T_iast dX9_setRow_11 lyM_3 (inb_in hi_3) eM_2 ?_
  obtain rfl := sm1 h
  exact T_vret dX9_setRow_12 ⟨rfl, rfl, rfl, rfl⟩
def X9_row_L34 (x1 : Int32) (x2 : Int32) : Int32 × Mem → Option ((Int32 × Mem) ⊕ (Int32 × Mem))
  | (x3, M) =>
    if (nI 40) ≤ x3 then some (.inr (x2, M))
    else bd1 (F_X9_setRow M x1 x3 0) fun M_6 => lett (x3 + 1) fun x_8 => some (.inl (x_8, M_6))
def F_X9_row (M : Mem) (x1 : Int32) (x2 : Int32) : Option (Int32 × Mem) :=
 bd1 (F_X9_isRow x1) fun r_1 => if r_1 = 0 then some ((-1), M)
 else if x2 ≤ (nI 40) then if 0 ≤ x2 then chk (inb x1 6 = true) (lett (sI M 2 x1.toNatClampNeg x2) fun M_3 => loop (X9_row_L34 x1 x2) FU (0, M_3))
 else bd2 (F_X9_meet M (nI 5)) fun r_10 M_11 => some (r_10, M_11)
 else some ((-1), M)
set_option maxRecDepth 100000 in
set_option maxHeartbeats 4000000 in
theorem s_X9_row_L34 (x1 : Int32) (x2 : Int32) (x3 : Int32) (M : Mem) {Po : Po_} (x : (Int32 × Mem) ⊕ (Int32 × Mem)) (h : X9_row_L34 x1 x2 (x3, M) = some x) (hI : ∀ (ix3 : Int32) (iM : Mem), x = .inl (ix3, iM) → T RX9 cX9_row 4 (some .int) 0 3 0 0 false Po 34 [aR (some 0), aI x1, aI x2, aI ix3] [] LAYM rfm iM 0 0) (hE0 : ∀ (er : Int32) (eM : Mem), x = .inr (er, eM) → Po (vI er) LAYM rfm eM) : T RX9 cX9_row 4 (some .int) 0 3 0 0 false Po 34 [aR (some 0), aI x1, aI x2, aI x3] [] LAYM rfm M 0 0 := by
  unfold X9_row_L34 at h
  simp only at h
  refine T_iload_n dX9_row_34 rfl ?_
  refine T_bipush dX9_row_35 bp_40 ?_
  refine T_icmp_ge (tgt := 53) dX9_row_37 (by decide) (fun hc => ?_) (fun hc => ?_)
  · have h := it_pos hc h
    refine T_iload_n dX9_row_53 rfl ?_
    obtain rfl := sm1 h
    exact T_iret dX9_row_54 (hE0 _ _ rfl)
  · have h := it_neg hc h
    refine T_aload_n dX9_row_40 rfl ?_
    refine T_iload_n dX9_row_41 rfl ?_
    refine T_iload_n dX9_row_42 rfl ?_
    refine T_iconst dX9_row_43 ic_0 ?_
    obtain ⟨M_6, hc_7, h⟩ := bd1_some h
    refine T_cvv (as := [vI x1, vI x3, vI 0]) dX9_row_44 cw_X9_setRow ml_X9_94 mi_X9_setRow se_X9_setRow lyM_0 rfl (by decide) rfl (Nat.le_of_ble_eq_true rfl) (Nat.le_of_ble_eq_true rfl) (m_X9_setRow  M x1 x3 0  _ hc_7) ?_
    obtain ⟨x_8, ex_9, h⟩ := lett_some h
    refine T_iinc (L' := [aR (some 0), aI x1, aI x2, aI x_8]) dX9_row_47 rfl (ic_inc ic_1 ex_9) (Nat.le_of_ble_eq_true rfl) rfl ?_
    refine T_goto (tgt := 34) dX9_row_50 (by decide) ?_
    obtain rfl := sm1 h
    exact hI _ _ rfl
set_option maxRecDepth 100000 in
set_option maxHeartbeats 4000000 in
theorem l_X9_row_L34 (x1 : Int32) (x2 : Int32) {Po : Po_} (er : Int32) (eM : Mem) : ∀ (k : Nat) (x3 : Int32) (M : Mem), loop (X9_row_L34 x1 x2) k (x3, M) = some (er, eM) → (Po (vI er) LAYM rfm eM) → T RX9 cX9_row 4 (some .int) 0 3 0 0 false Po 34 [aR (some 0), aI x1, aI x2, aI x3] [] LAYM rfm M 0 0 := by
  intro k
  induction k with
  | zero => intro x3 M h; cases h
  | succ k ih =>
    intro x3 M h hE
    obtain ⟨x, hx, hx1, hx2⟩ := loop_succ h
    exact s_X9_row_L34  x1 x2  x3 M x hx (fun q0 q1 e => ih q0 q1 (hx1 _ e) hE) (fun q0 q1 e => by cases hx2 _ e; exact hE)
set_option maxRecDepth 100000 in
set_option maxHeartbeats 4000000 in
theorem m_X9_row (M : Mem) (x1 : Int32) (x2 : Int32) (r : Int32) (M' : Mem) (h : F_X9_row M x1 x2 = some (r, M')) : Cal yX9_row cX9_row 4 (some .int) 0 3 0 0 false [vR (some 0), vI x1, vI x2] LAYM rfm M (eqp (vI r) LAYM rfm M') := by
  refine Cal.of (by decide +kernel) (Nat.le_of_ble_eq_true rfl) (fun h => by cases h) ?_
  unfold F_X9_row at h
  show T RX9 cX9_row 4 (some .int) 0 3 0 0 false (eqp (vI r) LAYM rfm M') 0 [aR (some 0), aI x1, aI x2, aU] [] LAYM rfm M 0 0
  refine T_iload_n dX9_row_0 rfl ?_
  obtain ⟨r_1, hc_2, h⟩ := bd1_some h
  refine T_csi (as := [vI x1]) dX9_row_1 cw_X9_isRow ml_X9_83 mt_X9_isRow rfl (Nat.le_of_ble_eq_true rfl) (Nat.le_of_ble_eq_true rfl) (m_X9_isRow M x1  _ hc_2) ?_
  refine T_if_eq (tgt := 13) dX9_row_4 (by decide) (fun hc => ?_) (fun hc => ?_)
  · have h := it_pos hc h
    refine T_iconst dX9_row_13 ic_m1 ?_
    obtain ⟨rfl, rfl⟩ := sm2 h
    exact T_iret dX9_row_14 ⟨rfl, rfl, rfl, rfl⟩
  · have h := it_neg hc h
    refine T_iload_n dX9_row_7 rfl ?_
    refine T_bipush dX9_row_8 bp_40 ?_
    refine T_icmp_le (tgt := 15) dX9_row_10 (by decide) (fun hc => ?_) (fun hc => ?_)
    · have h := it_pos hc h
      refine T_iload_n dX9_row_15 rfl ?_
      refine T_if_ge (tgt := 25) dX9_row_16 (by decide) (fun hc => ?_) (fun hc => ?_)
      · have h := it_pos hc h
        refine T_aload_n dX9_row_25 rfl ?_
        refine T_getR dX9_row_26 clOK_X9 fl_X9_17 lyM_0 rfl rfl ?_
        refine T_iload_n dX9_row_29 rfl ?_
        refine T_iload_n dX9_row_30 rfl ?_
        obtain ⟨hi_5, h⟩ := chk_some h
        obtain ⟨M_3, eM_4, h⟩ := lett_some h
        refine T_iast dX9_row_31 lyM_2 (inb_in hi_5) eM_4 ?_
        refine T_iconst dX9_row_32 ic_0 ?_
        refine T_istore_n (i := 3) (L' := [aR (some 0), aI x1, aI x2, aI 0]) dX9_row_33 rfl (Nat.le_of_ble_eq_true rfl) rfl ?_
        exact l_X9_row_L34  x1 x2  _ _ FU 0 M_3 h ⟨rfl, rfl, rfl, rfl⟩
      · have h := it_neg hc h
        refine T_aload_n dX9_row_19 rfl ?_
        refine T_iconst dX9_row_20 ic_5 ?_
        obtain ⟨r_10, M_11, hc_12, h⟩ := bd2_some h
        refine T_cvi (as := [vI (nI 5)]) dX9_row_21 cw_X9_meet ml_X9_87 mi_X9_meet se_X9_meet lyM_0 rfl (by decide) rfl (Nat.le_of_ble_eq_true rfl) (Nat.le_of_ble_eq_true rfl) (m_X9_meet  M (nI 5)  _ _ hc_12) ?_
        obtain ⟨rfl, rfl⟩ := sm2 h
        exact T_iret dX9_row_24 ⟨rfl, rfl, rfl, rfl⟩
    · have h := it_neg hc h
      refine T_iconst dX9_row_13 ic_m1 ?_
      obtain ⟨rfl, rfl⟩ := sm2 h
      exact T_iret dX9_row_14 ⟨rfl, rfl, rfl, rfl⟩
def F_X9_at (M : Mem) (x1 : Int32) (x2 : Int32) : Option (Int32 × Mem) :=
 bd2 (F_X9_askedRow M x1) fun r_1 M_2 => if 0 ≤ r_1 then chk (inb x1 6 = true) (bd1 (F_X9_in x2 0 ((gI M_2 2 x1.toNatClampNeg) - 1)) fun r_5 => if r_5 = 0 then bd2 (F_X9_meet M_2 (nI 2)) fun r_7 M_8 => some (r_7, M_8)
 else bd1 (F_X9_rowAt M_2 x1 x2) fun r_10 => bd2 (F_X9_ask M_2 r_10 1) fun r_12 M_13 => some (r_12, M_13))
 else some (r_1, M_2)
set_option maxRecDepth 100000 in
set_option maxHeartbeats 4000000 in
theorem m_X9_at (M : Mem) (x1 : Int32) (x2 : Int32) (r : Int32) (M' : Mem) (h : F_X9_at M x1 x2 = some (r, M')) : Cal yX9_at cX9_at 4 (some .int) 0 4 0 0 false [vR (some 0), vI x1, vI x2] LAYM rfm M (eqp (vI r) LAYM rfm M') := by
  refine Cal.of (by decide +kernel) (Nat.le_of_ble_eq_true rfl) (fun h => by cases h) ?_
  unfold F_X9_at at h
  show T RX9 cX9_at 4 (some .int) 0 4 0 0 false (eqp (vI r) LAYM rfm M') 0 [aR (some 0), aI x1, aI x2, aU] [] LAYM rfm M 0 0
  refine T_aload_n dX9_at_0 rfl ?_
  refine T_iload_n dX9_at_1 rfl ?_
  obtain ⟨r_1, M_2, hc_3, h⟩ := bd2_some h
  refine T_cvi (as := [vI x1]) dX9_at_2 cw_X9_askedRow ml_X9_98 mi_X9_askedRow se_X9_askedRow lyM_0 rfl (by decide) rfl (Nat.le_of_ble_eq_true rfl) (Nat.le_of_ble_eq_true rfl) (m_X9_askedRow  M x1  _ _ hc_3) ?_
  refine T_istore_n (i := 3) (L' := [aR (some 0), aI x1, aI x2, aI r_1]) dX9_at_5 rfl (Nat.le_of_ble_eq_true rfl) rfl ?_
  refine T_iload_n dX9_at_6 rfl ?_
  refine T_if_ge (tgt := 12) dX9_at_7 (by decide) (fun hc => ?_) (fun hc => ?_)
  · have h := it_pos hc h
    refine T_iload_n dX9_at_12 rfl ?_
    refine T_iconst dX9_at_13 ic_0 ?_
    refine T_aload_n dX9_at_14 rfl ?_
    refine T_getR dX9_at_15 clOK_X9 fl_X9_17 lyM_0 rfl rfl ?_
    refine T_iload_n dX9_at_18 rfl ?_
    obtain ⟨hi_4, h⟩ := chk_some h
    refine T_iald dX9_at_19 lyM_2 (inb_in hi_4) ?_
    refine T_iconst dX9_at_20 ic_1 ?_
    refine T_isub dX9_at_21 ?_
    obtain ⟨r_5, hc_6, h⟩ := bd1_some h
    refine T_csi (as := [vI x2, vI 0, vI ((gI M_2 2 x1.toNatClampNeg) - 1)]) dX9_at_22 cw_X9_in ml_X9_79 mt_X9_in rfl (Nat.le_of_ble_eq_true rfl) (Nat.le_of_ble_eq_true rfl) (m_X9_in M_2 x2 0 ((gI M_2 2 x1.toNatClampNeg) - 1)  _ hc_6) ?_
    refine T_if_eq (tgt := 42) dX9_at_25 (by decide) (fun hc => ?_) (fun hc => ?_)
    · have h := it_pos hc h
      refine T_aload_n dX9_at_42 rfl ?_
      refine T_iconst dX9_at_43 ic_2 ?_
      obtain ⟨r_7, M_8, hc_9, h⟩ := bd2_some h
      refine T_cvi (as := [vI (nI 2)]) dX9_at_44 cw_X9_meet ml_X9_87 mi_X9_meet se_X9_meet lyM_0 rfl (by decide) rfl (Nat.le_of_ble_eq_true rfl) (Nat.le_of_ble_eq_true rfl) (m_X9_meet  M_2 (nI 2)  _ _ hc_9) ?_
      obtain ⟨rfl, rfl⟩ := sm2 h
      exact T_iret dX9_at_47 ⟨rfl, rfl, rfl, rfl⟩
    · have h := it_neg hc h
      refine T_aload_n dX9_at_28 rfl ?_
      refine T_aload_n dX9_at_29 rfl ?_
      refine T_iload_n dX9_at_30 rfl ?_
      refine T_iload_n dX9_at_31 rfl ?_
      obtain ⟨r_10, hc_11, h⟩ := bd1_some h
      refine T_cvi (as := [vI x1, vI x2]) dX9_at_32 cw_X9_rowAt ml_X9_101 mi_X9_rowAt se_X9_rowAt lyM_0 rfl (by decide) rfl (Nat.le_of_ble_eq_true rfl) (Nat.le_of_ble_eq_true rfl) (m_X9_rowAt  M_2 x1 x2  _ hc_11) ?_
      refine T_iconst dX9_at_35 ic_1 ?_
      obtain ⟨r_12, M_13, hc_14, h⟩ := bd2_some h
      refine T_cvi (as := [vI r_10, vI 1]) dX9_at_36 cw_X9_ask ml_X9_105 mi_X9_ask se_X9_ask lyM_0 rfl (by decide) rfl (Nat.le_of_ble_eq_true rfl) (Nat.le_of_ble_eq_true rfl) (m_X9_ask  M_2 r_10 1  _ _ hc_14) ?_
      refine T_goto (tgt := 47) dX9_at_39 (by decide) ?_
      obtain ⟨rfl, rfl⟩ := sm2 h
      exact T_iret dX9_at_47 ⟨rfl, rfl, rfl, rfl⟩
  · have h := it_neg hc h
    refine T_iload_n dX9_at_10 rfl ?_
    obtain ⟨rfl, rfl⟩ := sm2 h
    exact T_iret dX9_at_11 ⟨rfl, rfl, rfl, rfl⟩
def F_X9_lay (M : Mem) (x1 : Int32) (x2 : Int32) (x3 : Int32) : Option (Int32 × Mem) :=
 bd2 (F_X9_at M x1 x2) fun r_1 M_2 => if 0 ≤ r_1 then bd1 (F_X9_setRow M_2 x1 x2 x3) fun M_4 => some (1, M_4)
 else some (r_1, M_2)
set_option maxRecDepth 100000 in
set_option maxHeartbeats 4000000 in
theorem m_X9_lay (M : Mem) (x1 : Int32) (x2 : Int32) (x3 : Int32) (r : Int32) (M' : Mem) (h : F_X9_lay M x1 x2 x3 = some (r, M')) : Cal yX9_lay cX9_lay 5 (some .int) 0 5 0 0 false [vR (some 0), vI x1, vI x2, vI x3] LAYM rfm M (eqp (vI r) LAYM rfm M') := by
  refine Cal.of (by decide +kernel) (Nat.le_of_ble_eq_true rfl) (fun h => by cases h) ?_
  unfold F_X9_lay at h
  show T RX9 cX9_lay 5 (some .int) 0 5 0 0 false (eqp (vI r) LAYM rfm M') 0 [aR (some 0), aI x1, aI x2, aI x3, aU] [] LAYM rfm M 0 0
  refine T_aload_n dX9_lay_0 rfl ?_
  refine T_iload_n dX9_lay_1 rfl ?_
  refine T_iload_n dX9_lay_2 rfl ?_
  obtain ⟨r_1, M_2, hc_3, h⟩ := bd2_some h
  refine T_cvi (as := [vI x1, vI x2]) dX9_lay_3 cw_X9_at ml_X9_108 mi_X9_at se_X9_at lyM_0 rfl (by decide) rfl (Nat.le_of_ble_eq_true rfl) (Nat.le_of_ble_eq_true rfl) (m_X9_at  M x1 x2  _ _ hc_3) ?_
  refine T_istore (i := 4) (L' := [aR (some 0), aI x1, aI x2, aI x3, aI r_1]) dX9_lay_6 (Nat.le_of_ble_eq_true rfl) rfl ?_
  refine T_iload dX9_lay_8 rfl ?_
  refine T_if_ge (tgt := 16) dX9_lay_10 (by decide) (fun hc => ?_) (fun hc => ?_)
  · have h := it_pos hc h
    refine T_aload_n dX9_lay_16 rfl ?_
    refine T_iload_n dX9_lay_17 rfl ?_
    refine T_iload_n dX9_lay_18 rfl ?_
    refine T_iload_n dX9_lay_19 rfl ?_
    obtain ⟨M_4, hc_5, h⟩ := bd1_some h
    refine T_cvv (as := [vI x1, vI x2, vI x3]) dX9_lay_20 cw_X9_setRow ml_X9_94 mi_X9_setRow se_X9_setRow lyM_0 rfl (by decide) rfl (Nat.le_of_ble_eq_true rfl) (Nat.le_of_ble_eq_true rfl) (m_X9_setRow  M_2 x1 x2 x3  _ hc_5) ?_
    refine T_iconst dX9_lay_23 ic_1 ?_
    obtain ⟨rfl, rfl⟩ := sm2 h
    exact T_iret dX9_lay_24 ⟨rfl, rfl, rfl, rfl⟩
  · have h := it_neg hc h
    refine T_iload dX9_lay_13 rfl ?_
    obtain ⟨rfl, rfl⟩ := sm2 h
    exact T_iret dX9_lay_15 ⟨rfl, rfl, rfl, rfl⟩
def F_X9_tear (M : Mem) (x1 : Int32) : Option (Int32 × Mem) :=
 bd2 (F_X9_askedRow M x1) fun r_1 M_2 => if 0 ≤ r_1 then chk (inb x1 6 = true) (lett (sI M_2 2 x1.toNatClampNeg (-9)) fun M_4 => some (1, M_4))
 else some (r_1, M_2)
set_option maxRecDepth 100000 in
set_option maxHeartbeats 4000000 in
theorem m_X9_tear (M : Mem) (x1 : Int32) (r : Int32) (M' : Mem) (h : F_X9_tear M x1 = some (r, M')) : Cal yX9_tear cX9_tear 3 (some .int) 0 4 0 0 false [vR (some 0), vI x1] LAYM rfm M (eqp (vI r) LAYM rfm M') := by
  refine Cal.of (by decide +kernel) (Nat.le_of_ble_eq_true rfl) (fun h => by cases h) ?_
  unfold F_X9_tear at h
  show T RX9 cX9_tear 3 (some .int) 0 4 0 0 false (eqp (vI r) LAYM rfm M') 0 [aR (some 0), aI x1, aU] [] LAYM rfm M 0 0
  refine T_aload_n dX9_tear_0 rfl ?_
  refine T_iload_n dX9_tear_1 rfl ?_
  obtain ⟨r_1, M_2, hc_3, h⟩ := bd2_some h
  refine T_cvi (as := [vI x1]) dX9_tear_2 cw_X9_askedRow ml_X9_98 mi_X9_askedRow se_X9_askedRow lyM_0 rfl (by decide) rfl (Nat.le_of_ble_eq_true rfl) (Nat.le_of_ble_eq_true rfl) (m_X9_askedRow  M x1  _ _ hc_3) ?_
  refine T_istore_n (i := 2) (L' := [aR (some 0), aI x1, aI r_1]) dX9_tear_5 rfl (Nat.le_of_ble_eq_true rfl) rfl ?_
  refine T_iload_n dX9_tear_6 rfl ?_
  refine T_if_ge (tgt := 12) dX9_tear_7 (by decide) (fun hc => ?_) (fun hc => ?_)
  · have h := it_pos hc h
    refine T_aload_n dX9_tear_12 rfl ?_
    refine T_getR dX9_tear_13 clOK_X9 fl_X9_17 lyM_0 rfl rfl ?_
    refine T_iload_n dX9_tear_16 rfl ?_
    refine T_bipush dX9_tear_17 bp_m9 ?_
    obtain ⟨hi_6, h⟩ := chk_some h
    obtain ⟨M_4, eM_5, h⟩ := lett_some h
    refine T_iast dX9_tear_19 lyM_2 (inb_in hi_6) eM_5 ?_
    refine T_iconst dX9_tear_20 ic_1 ?_
    obtain ⟨rfl, rfl⟩ := sm2 h
    exact T_iret dX9_tear_21 ⟨rfl, rfl, rfl, rfl⟩
  · have h := it_neg hc h
    refine T_iload_n dX9_tear_10 rfl ?_
    obtain ⟨rfl, rfl⟩ := sm2 h
    exact T_iret dX9_tear_11 ⟨rfl, rfl, rfl, rfl⟩
def X9_copy_J45 (M : Mem) : Option (Int32 × Mem) :=
 bd2 (F_X9_meet M 1) fun r_6 M_7 => some (r_6, M_7)
def X9_copy_J95 (M : Mem) : Option (Int32 × Mem) :=
 bd2 (F_X9_meet M (nI 2)) fun r_10 M_11 => some (r_10, M_11)
def X9_copy_L104 (x1 : Int32) (x2 : Int32) (x3 : Int32) (x4 : Int32) (x5 : Int32) : Int32 × Mem → Option ((Int32 × Mem) ⊕ (Mem))
  | (x6, M) =>
    if x5 ≤ x6 then some (.inr M)
    else bd1 (F_X9_rowAt M x1 (x2 + x6)) fun r_15 => chk (inb x6 40 = true) (lett (sI M 4 x6.toNatClampNeg r_15) fun M_17 => lett (x6 + 1) fun x_20 => some (.inl (x_20, M_17)))
def X9_copy_L136 (x3 : Int32) (x4 : Int32) (x5 : Int32) : Int32 × Mem → Option ((Int32 × Mem) ⊕ (Int32 × Mem))
  | (x6, M) =>
    if x5 ≤ x6 then some (.inr (1, M))
    else chk (inb x6 40 = true) (bd1 (F_X9_setRow M x3 (x4 + x6) (gI M 4 x6.toNatClampNeg)) fun M_24 => lett (x6 + 1) fun x_26 => some (.inl (x_26, M_24)))
def F_X9_copy (M : Mem) (x1 : Int32) (x2 : Int32) (x3 : Int32) (x4 : Int32) (x5 : Int32) : Option (Int32 × Mem) :=
 bd1 (F_X9_isRow x1) fun r_1 => if r_1 = 0 then some ((-1), M)
 else bd1 (F_X9_isRow x3) fun r_3 => if r_3 = 0 then some ((-1), M)
 else if 0 ≤ x5 then chk (inb x1 6 = true) (if (gI M 2 x1.toNatClampNeg) < 0 then X9_copy_J45 M
 else chk (inb x3 6 = true) (if 0 ≤ (gI M 2 x3.toNatClampNeg) then if x2 < 0 then X9_copy_J95 M
 else if x4 < 0 then X9_copy_J95 M
 else chk (inb x1 6 = true) (if 0 < (lg_cmp (x2.toInt64 + x5.toInt64) ((gI M 2 x1.toNatClampNeg).toInt64)) then X9_copy_J95 M
 else chk (inb x3 6 = true) (if (lg_cmp (x4.toInt64 + x5.toInt64) ((gI M 2 x3.toNatClampNeg).toInt64)) ≤ 0 then bd1 (loop (X9_copy_L104 x1 x2 x3 x4 x5) FU (0, M)) fun M_22 => loop (X9_copy_L136 x3 x4 x5) FU (0, M_22)
 else X9_copy_J95 M))
 else X9_copy_J45 M))
 else bd2 (F_X9_meet M (nI 5)) fun r_28 M_29 => some (r_28, M_29)
set_option maxRecDepth 100000 in
set_option maxHeartbeats 4000000 in
theorem j_X9_copy_J45 (M : Mem) (r : Int32) (M' : Mem) (h : X9_copy_J45 M = some (r, M')) : T RX9 cX9_copy 7 (some .int) 0 3 0 0 false (eqp (vI r) LAYM rfm M') 45 [aR (some 0), aU, aU, aU, aU, aU, aU] [] LAYM rfm M 0 0 := by
  unfold X9_copy_J45 at h
  refine T_aload_n dX9_copy_45 rfl ?_
  refine T_iconst dX9_copy_46 ic_1 ?_
  obtain ⟨r_6, M_7, hc_8, h⟩ := bd2_some h
  refine T_cvi (as := [vI 1]) dX9_copy_47 cw_X9_meet ml_X9_87 mi_X9_meet se_X9_meet lyM_0 rfl (by decide) rfl (Nat.le_of_ble_eq_true rfl) (Nat.le_of_ble_eq_true rfl) (m_X9_meet  M 1  _ _ hc_8) ?_
  obtain ⟨rfl, rfl⟩ := sm2 h
  exact T_iret dX9_copy_50 ⟨rfl, rfl, rfl, rfl⟩
set_option maxRecDepth 100000 in
set_option maxHeartbeats 4000000 in
theorem j_X9_copy_J95 (M : Mem) (r : Int32) (M' : Mem) (h : X9_copy_J95 M = some (r, M')) : T RX9 cX9_copy 7 (some .int) 0 3 0 0 false (eqp (vI r) LAYM rfm M') 95 [aR (some 0), aU, aU, aU, aU, aU, aU] [] LAYM rfm M 0 0 := by
  unfold X9_copy_J95 at h
  refine T_aload_n dX9_copy_95 rfl ?_
  refine T_iconst dX9_copy_96 ic_2 ?_
  obtain ⟨r_10, M_11, hc_12, h⟩ := bd2_some h
  refine T_cvi (as := [vI (nI 2)]) dX9_copy_97 cw_X9_meet ml_X9_87 mi_X9_meet se_X9_meet lyM_0 rfl (by decide) rfl (Nat.le_of_ble_eq_true rfl) (Nat.le_of_ble_eq_true rfl) (m_X9_meet  M (nI 2)  _ _ hc_12) ?_
  obtain ⟨rfl, rfl⟩ := sm2 h
  exact T_iret dX9_copy_100 ⟨rfl, rfl, rfl, rfl⟩
set_option maxRecDepth 100000 in
set_option maxHeartbeats 4000000 in
theorem s_X9_copy_L104 (x1 : Int32) (x2 : Int32) (x3 : Int32) (x4 : Int32) (x5 : Int32) (x6 : Int32) (M : Mem) {Po : Po_} (x : (Int32 × Mem) ⊕ (Mem)) (h : X9_copy_L104 x1 x2 x3 x4 x5 (x6, M) = some x) (hI : ∀ (ix6 : Int32) (iM : Mem), x = .inl (ix6, iM) → T RX9 cX9_copy 7 (some .int) 0 3 0 0 false Po 104 [aR (some 0), aI x1, aI x2, aI x3, aI x4, aI x5, aI ix6] [] LAYM rfm iM 0 0) (hE0 : ∀ (eM : Mem), x = .inr eM → T RX9 cX9_copy 7 (some .int) 0 3 0 0 false Po 133 [aR (some 0), aU, aU, aI x3, aI x4, aI x5, aU] [] LAYM rfm eM 0 0) : T RX9 cX9_copy 7 (some .int) 0 3 0 0 false Po 104 [aR (some 0), aI x1, aI x2, aI x3, aI x4, aI x5, aI x6] [] LAYM rfm M 0 0 := by
  unfold X9_copy_L104 at h
  simp only at h
  refine T_iload dX9_copy_104 rfl ?_
  refine T_iload dX9_copy_106 rfl ?_
  refine T_icmp_ge (tgt := 133) dX9_copy_108 (by decide) (fun hc => ?_) (fun hc => ?_)
  · have h := it_pos hc h
    obtain rfl := sm1 h
    refine T_mask [true, false, false, true, true, true, false] rfl ?_
    exact hE0 _ rfl
  · have h := it_neg hc h
    refine T_aload_n dX9_copy_111 rfl ?_
    refine T_getR dX9_copy_112 clOK_X9 fl_X9_23 lyM_0 rfl rfl ?_
    refine T_iload dX9_copy_115 rfl ?_
    refine T_aload_n dX9_copy_117 rfl ?_
    refine T_iload_n dX9_copy_118 rfl ?_
    refine T_iload_n dX9_copy_119 rfl ?_
    refine T_iload dX9_copy_120 rfl ?_
    refine T_iadd dX9_copy_122 ?_
    obtain ⟨r_15, hc_16, h⟩ := bd1_some h
    refine T_cvi (as := [vI x1, vI (x2 + x6)]) dX9_copy_123 cw_X9_rowAt ml_X9_101 mi_X9_rowAt se_X9_rowAt lyM_0 rfl (by decide) rfl (Nat.le_of_ble_eq_true rfl) (Nat.le_of_ble_eq_true rfl) (m_X9_rowAt  M x1 (x2 + x6)  _ hc_16) ?_
    obtain ⟨hi_19, h⟩ := chk_some h
    obtain ⟨M_17, eM_18, h⟩ := lett_some h
    refine T_iast dX9_copy_126 lyM_4 (inb_in hi_19) eM_18 ?_
    obtain ⟨x_20, ex_21, h⟩ := lett_some h
    refine T_iinc (L' := [aR (some 0), aI x1, aI x2, aI x3, aI x4, aI x5, aI x_20]) dX9_copy_127 rfl (ic_inc ic_1 ex_21) (Nat.le_of_ble_eq_true rfl) rfl ?_
    refine T_goto (tgt := 104) dX9_copy_130 (by decide) ?_
    obtain rfl := sm1 h
    exact hI _ _ rfl
set_option maxRecDepth 100000 in
set_option maxHeartbeats 4000000 in
theorem l_X9_copy_L104 (x1 : Int32) (x2 : Int32) (x3 : Int32) (x4 : Int32) (x5 : Int32) {Po : Po_} (eM : Mem) : ∀ (k : Nat) (x6 : Int32) (M : Mem), loop (X9_copy_L104 x1 x2 x3 x4 x5) k (x6, M) = some eM → (T RX9 cX9_copy 7 (some .int) 0 3 0 0 false Po 133 [aR (some 0), aU, aU, aI x3, aI x4, aI x5, aU] [] LAYM rfm eM 0 0) → T RX9 cX9_copy 7 (some .int) 0 3 0 0 false Po 104 [aR (some 0), aI x1, aI x2, aI x3, aI x4, aI x5, aI x6] [] LAYM rfm M 0 0 := by
  intro k
  induction k with
  | zero => intro x6 M h; cases h
  | succ k ih =>
    intro x6 M h hE
    obtain ⟨x, hx, hx1, hx2⟩ := loop_succ h
    exact s_X9_copy_L104  x1 x2 x3 x4 x5  x6 M x hx (fun q0 q1 e => ih q0 q1 (hx1 _ e) hE) (fun q0 e => by cases hx2 _ e; exact hE)
set_option maxRecDepth 100000 in
set_option maxHeartbeats 4000000 in
theorem s_X9_copy_L136 (x3 : Int32) (x4 : Int32) (x5 : Int32) (x6 : Int32) (M : Mem) {Po : Po_} (x : (Int32 × Mem) ⊕ (Int32 × Mem)) (h : X9_copy_L136 x3 x4 x5 (x6, M) = some x) (hI : ∀ (ix6 : Int32) (iM : Mem), x = .inl (ix6, iM) → T RX9 cX9_copy 7 (some .int) 0 3 0 0 false Po 136 [aR (some 0), aU, aU, aI x3, aI x4, aI x5, aI ix6] [] LAYM rfm iM 0 0) (hE0 : ∀ (er : Int32) (eM : Mem), x = .inr (er, eM) → Po (vI er) LAYM rfm eM) : T RX9 cX9_copy 7 (some .int) 0 3 0 0 false Po 136 [aR (some 0), aU, aU, aI x3, aI x4, aI x5, aI x6] [] LAYM rfm M 0 0 := by
  unfold X9_copy_L136 at h
  simp only at h
  refine T_iload dX9_copy_136 rfl ?_
  refine T_iload dX9_copy_138 rfl ?_
  refine T_icmp_ge (tgt := 166) dX9_copy_140 (by decide) (fun hc => ?_) (fun hc => ?_)
  · have h := it_pos hc h
    refine T_iconst dX9_copy_166 ic_1 ?_
    obtain rfl := sm1 h
    exact T_iret dX9_copy_167 (hE0 _ _ rfl)
  · have h := it_neg hc h
    refine T_aload_n dX9_copy_143 rfl ?_
    refine T_iload_n dX9_copy_144 rfl ?_
    refine T_iload dX9_copy_145 rfl ?_
    refine T_iload dX9_copy_147 rfl ?_
    refine T_iadd dX9_copy_149 ?_
    refine T_aload_n dX9_copy_150 rfl ?_
    refine T_getR dX9_copy_151 clOK_X9 fl_X9_23 lyM_0 rfl rfl ?_
    refine T_iload dX9_copy_154 rfl ?_
    obtain ⟨hi_23, h⟩ := chk_some h
    refine T_iald dX9_copy_156 lyM_4 (inb_in hi_23) ?_
    obtain ⟨M_24, hc_25, h⟩ := bd1_some h
    refine T_cvv (as := [vI x3, vI (x4 + x6), vI (gI M 4 x6.toNatClampNeg)]) dX9_copy_157 cw_X9_setRow ml_X9_94 mi_X9_setRow se_X9_setRow lyM_0 rfl (by decide) rfl (Nat.le_of_ble_eq_true rfl) (Nat.le_of_ble_eq_true rfl) (m_X9_setRow  M x3 (x4 + x6) (gI M 4 x6.toNatClampNeg)  _ hc_25) ?_
    obtain ⟨x_26, ex_27, h⟩ := lett_some h
    refine T_iinc (L' := [aR (some 0), aU, aU, aI x3, aI x4, aI x5, aI x_26]) dX9_copy_160 rfl (ic_inc ic_1 ex_27) (Nat.le_of_ble_eq_true rfl) rfl ?_
    refine T_goto (tgt := 136) dX9_copy_163 (by decide) ?_
    obtain rfl := sm1 h
    exact hI _ _ rfl
set_option maxRecDepth 100000 in
set_option maxHeartbeats 4000000 in
theorem l_X9_copy_L136 (x3 : Int32) (x4 : Int32) (x5 : Int32) {Po : Po_} (er : Int32) (eM : Mem) : ∀ (k : Nat) (x6 : Int32) (M : Mem), loop (X9_copy_L136 x3 x4 x5) k (x6, M) = some (er, eM) → (Po (vI er) LAYM rfm eM) → T RX9 cX9_copy 7 (some .int) 0 3 0 0 false Po 136 [aR (some 0), aU, aU, aI x3, aI x4, aI x5, aI x6] [] LAYM rfm M 0 0 := by
  intro k
  induction k with
  | zero => intro x6 M h; cases h
  | succ k ih =>
    intro x6 M h hE
    obtain ⟨x, hx, hx1, hx2⟩ := loop_succ h
    exact s_X9_copy_L136  x3 x4 x5  x6 M x hx (fun q0 q1 e => ih q0 q1 (hx1 _ e) hE) (fun q0 q1 e => by cases hx2 _ e; exact hE)
set_option maxRecDepth 100000 in
set_option maxHeartbeats 4000000 in
theorem m_X9_copy (M : Mem) (x1 : Int32) (x2 : Int32) (x3 : Int32) (x4 : Int32) (x5 : Int32) (r : Int32) (M' : Mem) (h : F_X9_copy M x1 x2 x3 x4 x5 = some (r, M')) : Cal yX9_copy cX9_copy 7 (some .int) 0 3 0 0 false [vR (some 0), vI x1, vI x2, vI x3, vI x4, vI x5] LAYM rfm M (eqp (vI r) LAYM rfm M') := by
  refine Cal.of (by decide +kernel) (Nat.le_of_ble_eq_true rfl) (fun h => by cases h) ?_
  unfold F_X9_copy at h
  show T RX9 cX9_copy 7 (some .int) 0 3 0 0 false (eqp (vI r) LAYM rfm M') 0 [aR (some 0), aI x1, aI x2, aI x3, aI x4, aI x5, aU] [] LAYM rfm M 0 0
  refine T_iload_n dX9_copy_0 rfl ?_
  obtain ⟨r_1, hc_2, h⟩ := bd1_some h
  refine T_csi (as := [vI x1]) dX9_copy_1 cw_X9_isRow ml_X9_83 mt_X9_isRow rfl (Nat.le_of_ble_eq_true rfl) (Nat.le_of_ble_eq_true rfl) (m_X9_isRow M x1  _ hc_2) ?_
  refine T_if_eq (tgt := 14) dX9_copy_4 (by decide) (fun hc => ?_) (fun hc => ?_)
  · have h := it_pos hc h
    refine T_iconst dX9_copy_14 ic_m1 ?_
    obtain ⟨rfl, rfl⟩ := sm2 h
    exact T_iret dX9_copy_15 ⟨rfl, rfl, rfl, rfl⟩
  · have h := it_neg hc h
    refine T_iload_n dX9_copy_7 rfl ?_
    obtain ⟨r_3, hc_4, h⟩ := bd1_some h
    refine T_csi (as := [vI x3]) dX9_copy_8 cw_X9_isRow ml_X9_83 mt_X9_isRow rfl (Nat.le_of_ble_eq_true rfl) (Nat.le_of_ble_eq_true rfl) (m_X9_isRow M x3  _ hc_4) ?_
    refine T_if_ne (tgt := 16) dX9_copy_11 (by decide) (fun hc => ?_) (fun hc => ?_)
    · have h := it_neg hc h
      refine T_iload dX9_copy_16 rfl ?_
      refine T_if_ge (tgt := 27) dX9_copy_18 (by decide) (fun hc => ?_) (fun hc => ?_)
      · have h := it_pos hc h
        refine T_aload_n dX9_copy_27 rfl ?_
        refine T_getR dX9_copy_28 clOK_X9 fl_X9_17 lyM_0 rfl rfl ?_
        refine T_iload_n dX9_copy_31 rfl ?_
        obtain ⟨hi_5, h⟩ := chk_some h
        refine T_iald dX9_copy_32 lyM_2 (inb_in hi_5) ?_
        refine T_if_lt (tgt := 45) dX9_copy_33 (by decide) (fun hc => ?_) (fun hc => ?_)
        · have h := it_pos hc h
          refine T_mask [true, false, false, false, false, false, true] rfl ?_
          exact j_X9_copy_J45  M  _ _ h
        · have h := it_neg hc h
          refine T_aload_n dX9_copy_36 rfl ?_
          refine T_getR dX9_copy_37 clOK_X9 fl_X9_17 lyM_0 rfl rfl ?_
          refine T_iload_n dX9_copy_40 rfl ?_
          obtain ⟨hi_9, h⟩ := chk_some h
          refine T_iald dX9_copy_41 lyM_2 (inb_in hi_9) ?_
          refine T_if_ge (tgt := 51) dX9_copy_42 (by decide) (fun hc => ?_) (fun hc => ?_)
          · have h := it_pos hc h
            refine T_iload_n dX9_copy_51 rfl ?_
            refine T_if_lt (tgt := 95) dX9_copy_52 (by decide) (fun hc => ?_) (fun hc => ?_)
            · have h := it_pos hc h
              refine T_mask [true, false, false, false, false, false, true] rfl ?_
              exact j_X9_copy_J95  M  _ _ h
            · have h := it_neg hc h
              refine T_iload dX9_copy_55 rfl ?_
              refine T_if_lt (tgt := 95) dX9_copy_57 (by decide) (fun hc => ?_) (fun hc => ?_)
              · have h := it_pos hc h
                refine T_mask [true, false, false, false, false, false, true] rfl ?_
                exact j_X9_copy_J95  M  _ _ h
              · have h := it_neg hc h
                refine T_iload_n dX9_copy_60 rfl ?_
                refine T_i2l dX9_copy_61 ?_
                refine T_iload dX9_copy_62 rfl ?_
                refine T_i2l dX9_copy_64 ?_
                refine T_ladd dX9_copy_65 ?_
                refine T_aload_n dX9_copy_66 rfl ?_
                refine T_getR dX9_copy_67 clOK_X9 fl_X9_17 lyM_0 rfl rfl ?_
                refine T_iload_n dX9_copy_70 rfl ?_
                obtain ⟨hi_13, h⟩ := chk_some h
                refine T_iald dX9_copy_71 lyM_2 (inb_in hi_13) ?_
                refine T_i2l dX9_copy_72 ?_
                refine T_lcmp dX9_copy_73 ?_
                refine T_if_gt (tgt := 95) dX9_copy_74 (by decide) (fun hc => ?_) (fun hc => ?_)
                · have h := it_pos hc h
                  refine T_mask [true, false, false, false, false, false, true] rfl ?_
                  exact j_X9_copy_J95  M  _ _ h
                · have h := it_neg hc h
                  refine T_iload dX9_copy_77 rfl ?_
                  refine T_i2l dX9_copy_79 ?_
                  refine T_iload dX9_copy_80 rfl ?_
                  refine T_i2l dX9_copy_82 ?_
                  refine T_ladd dX9_copy_83 ?_
                  refine T_aload_n dX9_copy_84 rfl ?_
                  refine T_getR dX9_copy_85 clOK_X9 fl_X9_17 lyM_0 rfl rfl ?_
                  refine T_iload_n dX9_copy_88 rfl ?_
                  obtain ⟨hi_14, h⟩ := chk_some h
                  refine T_iald dX9_copy_89 lyM_2 (inb_in hi_14) ?_
                  refine T_i2l dX9_copy_90 ?_
                  refine T_lcmp dX9_copy_91 ?_
                  refine T_if_le (tgt := 101) dX9_copy_92 (by decide) (fun hc => ?_) (fun hc => ?_)
                  · have h := it_pos hc h
                    refine T_iconst dX9_copy_101 ic_0 ?_
                    refine T_istore (i := 6) (L' := [aR (some 0), aI x1, aI x2, aI x3, aI x4, aI x5, aI 0]) dX9_copy_102 (Nat.le_of_ble_eq_true rfl) rfl ?_
                    obtain ⟨M_22, hl, h⟩ := bd1_some h
                    refine l_X9_copy_L104  x1 x2 x3 x4 x5  _ FU 0 M hl ?_
                    refine T_iconst dX9_copy_133 ic_0 ?_
                    refine T_istore (i := 6) (L' := [aR (some 0), aU, aU, aI x3, aI x4, aI x5, aI 0]) dX9_copy_134 (Nat.le_of_ble_eq_true rfl) rfl ?_
                    exact l_X9_copy_L136  x3 x4 x5  _ _ FU 0 M_22 h ⟨rfl, rfl, rfl, rfl⟩
                  · have h := it_neg hc h
                    refine T_mask [true, false, false, false, false, false, true] rfl ?_
                    exact j_X9_copy_J95  M  _ _ h
          · have h := it_neg hc h
            refine T_mask [true, false, false, false, false, false, true] rfl ?_
            exact j_X9_copy_J45  M  _ _ h
      · have h := it_neg hc h
        refine T_aload_n dX9_copy_21 rfl ?_
        refine T_iconst dX9_copy_22 ic_5 ?_
        obtain ⟨r_28, M_29, hc_30, h⟩ := bd2_some h
        refine T_cvi (as := [vI (nI 5)]) dX9_copy_23 cw_X9_meet ml_X9_87 mi_X9_meet se_X9_meet lyM_0 rfl (by decide) rfl (Nat.le_of_ble_eq_true rfl) (Nat.le_of_ble_eq_true rfl) (m_X9_meet  M (nI 5)  _ _ hc_30) ?_
        obtain ⟨rfl, rfl⟩ := sm2 h
        exact T_iret dX9_copy_26 ⟨rfl, rfl, rfl, rfl⟩
    · have h := it_pos hc h
      refine T_iconst dX9_copy_14 ic_m1 ?_
      obtain ⟨rfl, rfl⟩ := sm2 h
      exact T_iret dX9_copy_15 ⟨rfl, rfl, rfl, rfl⟩
def X9_mean_L17 (M : Mem) (x1 : Int32) : Int64 × Int32 → Option ((Int64 × Int32) ⊕ (Int64))
  | (x3, x5) =>
    chk (inb x1 6 = true) (if (gI M 2 x1.toNatClampNeg) ≤ x5 then some (.inr x3)
    else bd1 (F_X9_rowAt M x1 x5) fun r_5 => lett (x3 + r_5.toInt64) fun x_7 => lett (x5 + 1) fun x_9 => some (.inl (x_7, x_9)))
def F_X9_mean (M : Mem) (x1 : Int32) : Option (Int32 × Mem) :=
 bd2 (F_X9_askedRow M x1) fun r_1 M_2 => if 0 ≤ r_1 then bd1 (loop (X9_mean_L17 M_2 x1) FU (0, 0)) fun x_11 => chk (inb x1 6 = true) (if (gI M_2 2 x1.toNatClampNeg) = 0 then bd2 (F_X9_meet M_2 (nI 4)) fun r_18 M_19 => some (r_18, M_19)
 else chk (inb x1 6 = true) (chk (¬ ((gI M_2 2 x1.toNatClampNeg).toInt64) = 0) (bd2 (F_X9_ask M_2 ((x_11 / ((gI M_2 2 x1.toNatClampNeg).toInt64)).toInt32) 1) fun r_15 M_16 => some (r_15, M_16))))
 else some (r_1, M_2)
set_option maxRecDepth 100000 in
set_option maxHeartbeats 4000000 in
theorem s_X9_mean_L17 (M : Mem) (x1 : Int32) (x3 : Int64) (x5 : Int32) {Po : Po_} (x : (Int64 × Int32) ⊕ (Int64)) (h : X9_mean_L17 M x1 (x3, x5) = some x) (hI : ∀ (ix3 : Int64) (ix5 : Int32), x = .inl (ix3, ix5) → T RX9 cX9_mean 6 (some .int) 0 4 0 0 false Po 17 [aR (some 0), aI x1, aU, aJ ix3, aU, aI ix5] [] LAYM rfm M 0 0) (hE0 : ∀ (e3 : Int64), x = .inr e3 → T RX9 cX9_mean 6 (some .int) 0 4 0 0 false Po 45 [aR (some 0), aI x1, aU, aJ e3, aU, aU] [] LAYM rfm M 0 0) : T RX9 cX9_mean 6 (some .int) 0 4 0 0 false Po 17 [aR (some 0), aI x1, aU, aJ x3, aU, aI x5] [] LAYM rfm M 0 0 := by
  unfold X9_mean_L17 at h
  simp only at h
  refine T_iload dX9_mean_17 rfl ?_
  refine T_aload_n dX9_mean_19 rfl ?_
  refine T_getR dX9_mean_20 clOK_X9 fl_X9_17 lyM_0 rfl rfl ?_
  refine T_iload_n dX9_mean_23 rfl ?_
  obtain ⟨hi_4, h⟩ := chk_some h
  refine T_iald dX9_mean_24 lyM_2 (inb_in hi_4) ?_
  refine T_icmp_ge (tgt := 45) dX9_mean_25 (by decide) (fun hc => ?_) (fun hc => ?_)
  · have h := it_pos hc h
    obtain rfl := sm1 h
    refine T_mask [true, true, true, true, true, false] rfl ?_
    exact hE0 _ rfl
  · have h := it_neg hc h
    refine T_lload_n dX9_mean_28 rfl ?_
    refine T_aload_n dX9_mean_29 rfl ?_
    refine T_iload_n dX9_mean_30 rfl ?_
    refine T_iload dX9_mean_31 rfl ?_
    obtain ⟨r_5, hc_6, h⟩ := bd1_some h
    refine T_cvi (as := [vI x1, vI x5]) dX9_mean_33 cw_X9_rowAt ml_X9_101 mi_X9_rowAt se_X9_rowAt lyM_0 rfl (by decide) rfl (Nat.le_of_ble_eq_true rfl) (Nat.le_of_ble_eq_true rfl) (m_X9_rowAt  M x1 x5  _ hc_6) ?_
    refine T_i2l dX9_mean_36 ?_
    refine T_ladd dX9_mean_37 ?_
    obtain ⟨x_7, ex_8, h⟩ := lett_some h
    refine T_topJ ex_8 ?_
    refine T_lstore_n (i := 3) (L' := [aR (some 0), aI x1, aU, aJ x_7, aU, aI x5]) dX9_mean_38 rfl (Nat.le_of_ble_eq_true rfl) rfl ?_
    obtain ⟨x_9, ex_10, h⟩ := lett_some h
    refine T_iinc (L' := [aR (some 0), aI x1, aU, aJ x_7, aU, aI x_9]) dX9_mean_39 rfl (ic_inc ic_1 ex_10) (Nat.le_of_ble_eq_true rfl) rfl ?_
    refine T_goto (tgt := 17) dX9_mean_42 (by decide) ?_
    obtain rfl := sm1 h
    exact hI _ _ rfl
set_option maxRecDepth 100000 in
set_option maxHeartbeats 4000000 in
theorem l_X9_mean_L17 (M : Mem) (x1 : Int32) {Po : Po_} (e3 : Int64) : ∀ (k : Nat) (x3 : Int64) (x5 : Int32), loop (X9_mean_L17 M x1) k (x3, x5) = some e3 → (T RX9 cX9_mean 6 (some .int) 0 4 0 0 false Po 45 [aR (some 0), aI x1, aU, aJ e3, aU, aU] [] LAYM rfm M 0 0) → T RX9 cX9_mean 6 (some .int) 0 4 0 0 false Po 17 [aR (some 0), aI x1, aU, aJ x3, aU, aI x5] [] LAYM rfm M 0 0 := by
  intro k
  induction k with
  | zero => intro x3 x5 h; cases h
  | succ k ih =>
    intro x3 x5 h hE
    obtain ⟨x, hx, hx1, hx2⟩ := loop_succ h
    exact s_X9_mean_L17  M x1  x3 x5 x hx (fun q0 q1 e => ih q0 q1 (hx1 _ e) hE) (fun q0 e => by cases hx2 _ e; exact hE)
set_option maxRecDepth 100000 in
set_option maxHeartbeats 4000000 in
theorem m_X9_mean (M : Mem) (x1 : Int32) (r : Int32) (M' : Mem) (h : F_X9_mean M x1 = some (r, M')) : Cal yX9_mean cX9_mean 6 (some .int) 0 4 0 0 false [vR (some 0), vI x1] LAYM rfm M (eqp (vI r) LAYM rfm M') := by
  refine Cal.of (by decide +kernel) (Nat.le_of_ble_eq_true rfl) (fun h => by cases h) ?_
  unfold F_X9_mean at h
  show T RX9 cX9_mean 6 (some .int) 0 4 0 0 false (eqp (vI r) LAYM rfm M') 0 [aR (some 0), aI x1, aU, aU, aU, aU] [] LAYM rfm M 0 0
  refine T_aload_n dX9_mean_0 rfl ?_
  refine T_iload_n dX9_mean_1 rfl ?_
  obtain ⟨r_1, M_2, hc_3, h⟩ := bd2_some h
  refine T_cvi (as := [vI x1]) dX9_mean_2 cw_X9_askedRow ml_X9_98 mi_X9_askedRow se_X9_askedRow lyM_0 rfl (by decide) rfl (Nat.le_of_ble_eq_true rfl) (Nat.le_of_ble_eq_true rfl) (m_X9_askedRow  M x1  _ _ hc_3) ?_
  refine T_istore_n (i := 2) (L' := [aR (some 0), aI x1, aI r_1, aU, aU, aU]) dX9_mean_5 rfl (Nat.le_of_ble_eq_true rfl) rfl ?_
  refine T_iload_n dX9_mean_6 rfl ?_
  refine T_if_ge (tgt := 12) dX9_mean_7 (by decide) (fun hc => ?_) (fun hc => ?_)
  · have h := it_pos hc h
    refine T_lconst dX9_mean_12 lc_0 ?_
    refine T_lstore_n (i := 3) (L' := [aR (some 0), aI x1, aI r_1, aJ 0, aU, aU]) dX9_mean_13 rfl (Nat.le_of_ble_eq_true rfl) rfl ?_
    refine T_iconst dX9_mean_14 ic_0 ?_
    refine T_istore (i := 5) (L' := [aR (some 0), aI x1, aI r_1, aJ 0, aU, aI 0]) dX9_mean_15 (Nat.le_of_ble_eq_true rfl) rfl ?_
    obtain ⟨x_11, hl, h⟩ := bd1_some h
    refine T_mask [true, true, false, true, true, true] rfl ?_
    refine l_X9_mean_L17  M_2 x1  _ FU 0 0 hl ?_
    refine T_aload_n dX9_mean_45 rfl ?_
    refine T_getR dX9_mean_46 clOK_X9 fl_X9_17 lyM_0 rfl rfl ?_
    refine T_iload_n dX9_mean_49 rfl ?_
    obtain ⟨hi_12, h⟩ := chk_some h
    refine T_iald dX9_mean_50 lyM_2 (inb_in hi_12) ?_
    refine T_if_ne (tgt := 62) dX9_mean_51 (by decide) (fun hc => ?_) (fun hc => ?_)
    · have h := it_neg hc h
      refine T_aload_n dX9_mean_62 rfl ?_
      refine T_lload_n dX9_mean_63 rfl ?_
      refine T_aload_n dX9_mean_64 rfl ?_
      refine T_getR dX9_mean_65 clOK_X9 fl_X9_17 lyM_0 rfl rfl ?_
      refine T_iload_n dX9_mean_68 rfl ?_
      obtain ⟨hi_13, h⟩ := chk_some h
      refine T_iald dX9_mean_69 lyM_2 (inb_in hi_13) ?_
      refine T_i2l dX9_mean_70 ?_
      obtain ⟨hz_14, h⟩ := chk_some h
      refine T_ldiv dX9_mean_71 hz_14 ?_
      refine T_l2i dX9_mean_72 ?_
      refine T_iconst dX9_mean_73 ic_1 ?_
      obtain ⟨r_15, M_16, hc_17, h⟩ := bd2_some h
      refine T_cvi (as := [vI ((x_11 / ((gI M_2 2 x1.toNatClampNeg).toInt64)).toInt32), vI 1]) dX9_mean_74 cw_X9_ask ml_X9_105 mi_X9_ask se_X9_ask lyM_0 rfl (by decide) rfl (Nat.le_of_ble_eq_true rfl) (Nat.le_of_ble_eq_true rfl) (m_X9_ask  M_2 ((x_11 / ((gI M_2 2 x1.toNatClampNeg).toInt64)).toInt32) 1  _ _ hc_17) ?_
      obtain ⟨rfl, rfl⟩ := sm2 h
      exact T_iret dX9_mean_77 ⟨rfl, rfl, rfl, rfl⟩
    · have h := it_pos hc h
      refine T_aload_n dX9_mean_54 rfl ?_
      refine T_iconst dX9_mean_55 ic_4 ?_
      obtain ⟨r_18, M_19, hc_20, h⟩ := bd2_some h
      refine T_cvi (as := [vI (nI 4)]) dX9_mean_56 cw_X9_meet ml_X9_87 mi_X9_meet se_X9_meet lyM_0 rfl (by decide) rfl (Nat.le_of_ble_eq_true rfl) (Nat.le_of_ble_eq_true rfl) (m_X9_meet  M_2 (nI 4)  _ _ hc_20) ?_
      refine T_goto (tgt := 77) dX9_mean_59 (by decide) ?_
      obtain ⟨rfl, rfl⟩ := sm2 h
      exact T_iret dX9_mean_77 ⟨rfl, rfl, rfl, rfl⟩
  · have h := it_neg hc h
    refine T_iload_n dX9_mean_10 rfl ?_
    obtain ⟨rfl, rfl⟩ := sm2 h
    exact T_iret dX9_mean_11 ⟨rfl, rfl, rfl, rfl⟩
