def X9_day_J75 (M : Mem) (x1 : Int32) (x4 : Int32) (x5 : Int32) (x6 : Int32) (s0 : Int32) : Option ((Int32 × Int32 × Int32) ⊕ (Int32 × Int32)) :=
 if x4 ≤ x6 then lett (x5 + 1) fun x_5 => some (.inl (s0, x4, x_5))
 else lett (x5 + 1) fun x_7 => some (.inl (s0, x6, x_7))
def X9_day_J60 (M : Mem) (x1 : Int32) (x3 : Int32) (x4 : Int32) (x5 : Int32) (s0 : Int32) : Option ((Int32 × Int32 × Int32) ⊕ (Int32 × Int32)) :=
 if x4 ≤ s0 then X9_day_J75 M x1 x4 x5 s0 x3
 else X9_day_J75 M x1 x4 x5 s0 x5
def X9_day_L23 (M : Mem) (x1 : Int32) : Int32 × Int32 × Int32 → Option ((Int32 × Int32 × Int32) ⊕ (Int32 × Int32))
  | (x3, x4, x5) =>
    if (nI 3) ≤ x5 then some (.inr (x3, x4))
    else chk (inb x5 3 = true) (if (gI M 14 x5.toNatClampNeg) = 1 then bd1 (F_X9_liesBy M x1 15 ((nI 17) * x5)) fun r_9 => X9_day_J60 M x1 x3 x4 x5 r_9
    else X9_day_J60 M x1 x3 x4 x5 1048576)
def F_X9_day (M : Mem) (x1 : Int32) : Option (Int32 × Mem) :=
 bd2 (F_X9_askedWitnesses M x1) fun r_1 M_2 => if 0 ≤ r_1 then bd2 (loop (X9_day_L23 M_2 x1) FU ((-9), 1048576, 0)) fun x_11 x_12 => if x_11 = (-9) then some ((-9), M_2)
 else bd2 (F_X9_ask M_2 x_12 x_11) fun r_13 M_14 => some (r_13, M_14)
 else some (r_1, M_2)
set_option maxRecDepth 100000 in
set_option maxHeartbeats 4000000 in
theorem j_X9_day_J75 (M : Mem) (x1 : Int32) (x4 : Int32) (x5 : Int32) (x6 : Int32) (s0 : Int32) {Po : Po_} (x : (Int32 × Int32 × Int32) ⊕ (Int32 × Int32)) (h : X9_day_J75 M x1 x4 x5 x6 s0 = some x) (hI : ∀ (ix3 : Int32) (ix4 : Int32) (ix5 : Int32), x = .inl (ix3, ix4, ix5) → T RX9 cX9_day 7 (some .int) 0 5 0 0 false Po 23 [aR (some 0), aI x1, aU, aI ix3, aI ix4, aI ix5, aU] [] LAYM rfm M 0 0) (hE0 : ∀ (e3 : Int32) (e4 : Int32), x = .inr (e3, e4) → T RX9 cX9_day 7 (some .int) 0 5 0 0 false Po 98 [aR (some 0), aU, aU, aI e3, aI e4, aU, aU] [] LAYM rfm M 0 0) : T RX9 cX9_day 7 (some .int) 0 5 0 0 false Po 75 [aR (some 0), aI x1, aU, aU, aI x4, aI x5, aI x6] [vI s0] LAYM rfm M 0 0 := by
  unfold X9_day_J75 at h
  refine T_istore_n (i := 3) (L' := [aR (some 0), aI x1, aU, aI s0, aI x4, aI x5, aI x6]) dX9_day_75 rfl (Nat.le_of_ble_eq_true rfl) rfl ?_
  refine T_iload dX9_day_76 rfl ?_
  refine T_iload dX9_day_78 rfl ?_
  refine T_icmp_ge (tgt := 88) dX9_day_80 (by decide) (fun hc => ?_) (fun hc => ?_)
  · have h := it_pos hc h
    refine T_iload dX9_day_88 rfl ?_
    refine T_istore (i := 4) (L' := [aR (some 0), aI x1, aU, aI s0, aI x4, aI x5, aI x6]) dX9_day_90 (Nat.le_of_ble_eq_true rfl) rfl ?_
    obtain ⟨x_5, ex_6, h⟩ := lett_some h
    refine T_iinc (L' := [aR (some 0), aI x1, aU, aI s0, aI x4, aI x_5, aI x6]) dX9_day_92 rfl (ic_inc ic_1 ex_6) (Nat.le_of_ble_eq_true rfl) rfl ?_
    refine T_goto (tgt := 23) dX9_day_95 (by decide) ?_
    obtain rfl := sm1 h
    refine T_mask [true, true, true, true, true, true, false] rfl ?_
    exact hI _ _ _ rfl
  · have h := it_neg hc h
    refine T_iload dX9_day_83 rfl ?_
    refine T_goto (tgt := 90) dX9_day_85 (by decide) ?_
    refine T_istore (i := 4) (L' := [aR (some 0), aI x1, aU, aI s0, aI x6, aI x5, aI x6]) dX9_day_90 (Nat.le_of_ble_eq_true rfl) rfl ?_
    obtain ⟨x_7, ex_8, h⟩ := lett_some h
    refine T_iinc (L' := [aR (some 0), aI x1, aU, aI s0, aI x6, aI x_7, aI x6]) dX9_day_92 rfl (ic_inc ic_1 ex_8) (Nat.le_of_ble_eq_true rfl) rfl ?_
    refine T_goto (tgt := 23) dX9_day_95 (by decide) ?_
    obtain rfl := sm1 h
    refine T_mask [true, true, true, true, true, true, false] rfl ?_
    exact hI _ _ _ rfl
set_option maxRecDepth 100000 in
set_option maxHeartbeats 4000000 in
theorem j_X9_day_J60 (M : Mem) (x1 : Int32) (x3 : Int32) (x4 : Int32) (x5 : Int32) (s0 : Int32) {Po : Po_} (x : (Int32 × Int32 × Int32) ⊕ (Int32 × Int32)) (h : X9_day_J60 M x1 x3 x4 x5 s0 = some x) (hI : ∀ (ix3 : Int32) (ix4 : Int32) (ix5 : Int32), x = .inl (ix3, ix4, ix5) → T RX9 cX9_day 7 (some .int) 0 5 0 0 false Po 23 [aR (some 0), aI x1, aU, aI ix3, aI ix4, aI ix5, aU] [] LAYM rfm M 0 0) (hE0 : ∀ (e3 : Int32) (e4 : Int32), x = .inr (e3, e4) → T RX9 cX9_day 7 (some .int) 0 5 0 0 false Po 98 [aR (some 0), aU, aU, aI e3, aI e4, aU, aU] [] LAYM rfm M 0 0) : T RX9 cX9_day 7 (some .int) 0 5 0 0 false Po 60 [aR (some 0), aI x1, aU, aI x3, aI x4, aI x5, aU] [vI s0] LAYM rfm M 0 0 := by
  unfold X9_day_J60 at h
  refine T_istore (i := 6) (L' := [aR (some 0), aI x1, aU, aI x3, aI x4, aI x5, aI s0]) dX9_day_60 (Nat.le_of_ble_eq_true rfl) rfl ?_
  refine T_iload dX9_day_62 rfl ?_
  refine T_iload dX9_day_64 rfl ?_
  refine T_icmp_ge (tgt := 74) dX9_day_66 (by decide) (fun hc => ?_) (fun hc => ?_)
  · have h := it_pos hc h
    refine T_iload_n dX9_day_74 rfl ?_
    refine T_mask [true, true, true, false, true, true, true] rfl ?_
    exact j_X9_day_J75  M x1 x4 x5 s0 x3  _ h hI hE0
  · have h := it_neg hc h
    refine T_iload dX9_day_69 rfl ?_
    refine T_goto (tgt := 75) dX9_day_71 (by decide) ?_
    refine T_mask [true, true, true, false, true, true, true] rfl ?_
    exact j_X9_day_J75  M x1 x4 x5 s0 x5  _ h hI hE0
set_option maxRecDepth 100000 in
set_option maxHeartbeats 4000000 in
theorem s_X9_day_L23 (M : Mem) (x1 : Int32) (x3 : Int32) (x4 : Int32) (x5 : Int32) {Po : Po_} (x : (Int32 × Int32 × Int32) ⊕ (Int32 × Int32)) (h : X9_day_L23 M x1 (x3, x4, x5) = some x) (hI : ∀ (ix3 : Int32) (ix4 : Int32) (ix5 : Int32), x = .inl (ix3, ix4, ix5) → T RX9 cX9_day 7 (some .int) 0 5 0 0 false Po 23 [aR (some 0), aI x1, aU, aI ix3, aI ix4, aI ix5, aU] [] LAYM rfm M 0 0) (hE0 : ∀ (e3 : Int32) (e4 : Int32), x = .inr (e3, e4) → T RX9 cX9_day 7 (some .int) 0 5 0 0 false Po 98 [aR (some 0), aU, aU, aI e3, aI e4, aU, aU] [] LAYM rfm M 0 0) : T RX9 cX9_day 7 (some .int) 0 5 0 0 false Po 23 [aR (some 0), aI x1, aU, aI x3, aI x4, aI x5, aU] [] LAYM rfm M 0 0 := by
  unfold X9_day_L23 at h
  simp only at h
  refine T_iload dX9_day_23 rfl ?_
  refine T_iconst dX9_day_25 ic_3 ?_
  refine T_icmp_ge (tgt := 98) dX9_day_26 (by decide) (fun hc => ?_) (fun hc => ?_)
  · have h := it_pos hc h
    obtain rfl := sm1 h
    refine T_mask [true, false, true, true, true, false, true] rfl ?_
    exact hE0 _ _ rfl
  · have h := it_neg hc h
    refine T_aload_n dX9_day_29 rfl ?_
    refine T_getR dX9_day_30 clOK_X9 fl_X9_53 lyM_0 rfl rfl ?_
    refine T_iload dX9_day_33 rfl ?_
    obtain ⟨hi_4, h⟩ := chk_some h
    refine T_iald dX9_day_35 lyM_14 (inb_in hi_4) ?_
    refine T_iconst dX9_day_36 ic_1 ?_
    refine T_icmp_ne (tgt := 57) dX9_day_37 (by decide) (fun hc => ?_) (fun hc => ?_)
    · have h := it_neg hc h
      refine T_ldcw dX9_day_57 kc_X9_297 ?_
      exact j_X9_day_J60  M x1 x3 x4 x5 1048576  _ h hI hE0
    · have h := it_pos hc h
      refine T_aload_n dX9_day_40 rfl ?_
      refine T_iload_n dX9_day_41 rfl ?_
      refine T_aload_n dX9_day_42 rfl ?_
      refine T_getR dX9_day_43 clOK_X9 fl_X9_56 lyM_0 rfl rfl ?_
      refine T_bipush dX9_day_46 bp_17 ?_
      refine T_iload dX9_day_48 rfl ?_
      refine T_imul dX9_day_50 ?_
      obtain ⟨r_9, hc_10, h⟩ := bd1_some h
      refine T_cvi (as := [vI x1, vR (some 15), vI ((nI 17) * x5)]) dX9_day_51 cw_X9_liesBy ml_X9_322 mi_X9_liesBy se_X9_liesBy lyM_0 rfl (by decide) rfl (Nat.le_of_ble_eq_true rfl) (Nat.le_of_ble_eq_true rfl) (m_X9_liesBy  M x1 15 ((nI 17) * x5) rfl _ hc_10) ?_
      refine T_goto (tgt := 60) dX9_day_54 (by decide) ?_
      exact j_X9_day_J60  M x1 x3 x4 x5 r_9  _ h hI hE0
set_option maxRecDepth 100000 in
set_option maxHeartbeats 4000000 in
theorem l_X9_day_L23 (M : Mem) (x1 : Int32) {Po : Po_} (e3 : Int32) (e4 : Int32) : ∀ (k : Nat) (x3 : Int32) (x4 : Int32) (x5 : Int32), loop (X9_day_L23 M x1) k (x3, x4, x5) = some (e3, e4) → (T RX9 cX9_day 7 (some .int) 0 5 0 0 false Po 98 [aR (some 0), aU, aU, aI e3, aI e4, aU, aU] [] LAYM rfm M 0 0) → T RX9 cX9_day 7 (some .int) 0 5 0 0 false Po 23 [aR (some 0), aI x1, aU, aI x3, aI x4, aI x5, aU] [] LAYM rfm M 0 0 := by
  intro k
  induction k with
  | zero => intro x3 x4 x5 h; cases h
  | succ k ih =>
    intro x3 x4 x5 h hE
    obtain ⟨x, hx, hx1, hx2⟩ := loop_succ h
    exact s_X9_day_L23  M x1  x3 x4 x5 x hx (fun q0 q1 q2 e => ih q0 q1 q2 (hx1 _ e) hE) (fun q0 q1 e => by cases hx2 _ e; exact hE)
set_option maxRecDepth 100000 in
set_option maxHeartbeats 4000000 in
theorem m_X9_day (M : Mem) (x1 : Int32) (r : Int32) (M' : Mem) (h : F_X9_day M x1 = some (r, M')) : Cal yX9_day cX9_day 7 (some .int) 0 5 0 0 false [vR (some 0), vI x1] LAYM rfm M (eqp (vI r) LAYM rfm M') := by
  refine Cal.of (by decide +kernel) (Nat.le_of_ble_eq_true rfl) (fun h => by cases h) ?_
  unfold F_X9_day at h
  show T RX9 cX9_day 7 (some .int) 0 5 0 0 false (eqp (vI r) LAYM rfm M') 0 [aR (some 0), aI x1, aU, aU, aU, aU, aU] [] LAYM rfm M 0 0
  refine T_aload_n dX9_day_0 rfl ?_
  refine T_iload_n dX9_day_1 rfl ?_
  obtain ⟨r_1, M_2, hc_3, h⟩ := bd2_some h
  refine T_cvi (as := [vI x1]) dX9_day_2 cw_X9_askedWitnesses ml_X9_319 mi_X9_askedWitnesses se_X9_askedWitnesses lyM_0 rfl (by decide) rfl (Nat.le_of_ble_eq_true rfl) (Nat.le_of_ble_eq_true rfl) (m_X9_askedWitnesses  M x1  _ _ hc_3) ?_
  refine T_istore_n (i := 2) (L' := [aR (some 0), aI x1, aI r_1, aU, aU, aU, aU]) dX9_day_5 rfl (Nat.le_of_ble_eq_true rfl) rfl ?_
  refine T_iload_n dX9_day_6 rfl ?_
  refine T_if_ge (tgt := 12) dX9_day_7 (by decide) (fun hc => ?_) (fun hc => ?_)
  · have h := it_pos hc h
    refine T_bipush dX9_day_12 bp_m9 ?_
    refine T_istore_n (i := 3) (L' := [aR (some 0), aI x1, aI r_1, aI (-9), aU, aU, aU]) dX9_day_14 rfl (Nat.le_of_ble_eq_true rfl) rfl ?_
    refine T_ldcw dX9_day_15 kc_X9_297 ?_
    refine T_istore (i := 4) (L' := [aR (some 0), aI x1, aI r_1, aI (-9), aI 1048576, aU, aU]) dX9_day_18 (Nat.le_of_ble_eq_true rfl) rfl ?_
    refine T_iconst dX9_day_20 ic_0 ?_
    refine T_istore (i := 5) (L' := [aR (some 0), aI x1, aI r_1, aI (-9), aI 1048576, aI 0, aU]) dX9_day_21 (Nat.le_of_ble_eq_true rfl) rfl ?_
    obtain ⟨x_11, x_12, hl, h⟩ := bd2_some h
    refine T_mask [true, true, false, true, true, true, true] rfl ?_
    refine l_X9_day_L23  M_2 x1  _ _ FU (-9) 1048576 0 hl ?_
    refine T_iload_n dX9_day_98 rfl ?_
    refine T_bipush dX9_day_99 bp_m9 ?_
    refine T_icmp_ne (tgt := 109) dX9_day_101 (by decide) (fun hc => ?_) (fun hc => ?_)
    · have h := it_neg hc h
      refine T_aload_n dX9_day_109 rfl ?_
      refine T_iload dX9_day_110 rfl ?_
      refine T_iload_n dX9_day_112 rfl ?_
      obtain ⟨r_13, M_14, hc_15, h⟩ := bd2_some h
      refine T_cvi (as := [vI x_12, vI x_11]) dX9_day_113 cw_X9_ask ml_X9_105 mi_X9_ask se_X9_ask lyM_0 rfl (by decide) rfl (Nat.le_of_ble_eq_true rfl) (Nat.le_of_ble_eq_true rfl) (m_X9_ask  M_2 x_12 x_11  _ _ hc_15) ?_
      obtain ⟨rfl, rfl⟩ := sm2 h
      exact T_iret dX9_day_116 ⟨rfl, rfl, rfl, rfl⟩
    · have h := it_pos hc h
      refine T_bipush dX9_day_104 bp_m9 ?_
      refine T_goto (tgt := 116) dX9_day_106 (by decide) ?_
      obtain ⟨rfl, rfl⟩ := sm2 h
      exact T_iret dX9_day_116 ⟨rfl, rfl, rfl, rfl⟩
  · have h := it_neg hc h
    refine T_iload_n dX9_day_10 rfl ?_
    obtain ⟨rfl, rfl⟩ := sm2 h
    exact T_iret dX9_day_11 ⟨rfl, rfl, rfl, rfl⟩
def X9_depthsOf_J51 (M : Mem) (x1 : Int32) (x2 : Int32) (x4 : Int64) (x6 : Int32) (x7 : Int32) (x8 : Int32) (s0 : Int32) : Option ((Int32 × Int32 × Int32) ⊕ (Int32 × Int32)) :=
 if x7 = 0 then lett (x8 + (nI 3)) fun x_2 => some (.inl (s0, 0, x_2))
 else bd1 (F_X9_rowAt M x1 x8) fun r_4 => if r_4 = x2 then bd1 (F_X9_doesLie M x1 x8 x6) fun r_8 => if r_8 = 0 then lett (x8 + (nI 3)) fun x_12 => some (.inl (s0, 1, x_12))
 else lett (x8 + (nI 3)) fun x_10 => some (.inl (s0, 0, x_10))
 else lett (x8 + (nI 3)) fun x_6 => some (.inl (s0, 1, x_6))
def X9_depthsOf_J46 (M : Mem) (x1 : Int32) (x2 : Int32) (x4 : Int64) (x6 : Int32) (x7 : Int32) (x8 : Int32) : Option ((Int32 × Int32 × Int32) ⊕ (Int32 × Int32)) :=
 X9_depthsOf_J51 M x1 x2 x4 x6 x7 x8 1
def X9_depthsOf_L20 (M : Mem) (x1 : Int32) (x2 : Int32) (x4 : Int64) (x6 : Int32) : Int32 × Int32 × Int32 → Option ((Int32 × Int32 × Int32) ⊕ (Int32 × Int32))
  | (x3, x7, x8) =>
    chk (inb x1 6 = true) (if (gI M 2 x1.toNatClampNeg) ≤ x8 then some (.inr (x3, x7))
    else if x3 = 0 then bd1 (F_X9_rowAt M x1 x8) fun r_14 => if r_14 = x2 then X9_depthsOf_J46 M x1 x2 x4 x6 x7 x8
    else X9_depthsOf_J51 M x1 x2 x4 x6 x7 x8 0
    else X9_depthsOf_J46 M x1 x2 x4 x6 x7 x8)
def X9_depthsOf_L8 (M : Mem) (x1 : Int32) (x2 : Int32) : Int32 × Int64 × Int32 → Option ((Int32 × Int64 × Int32) ⊕ (Int32 × Int64))
  | (x3, x4, x6) =>
    if (nI 5) < x6 then some (.inr (x3, x4))
    else bd2 (loop (X9_depthsOf_L20 M x1 x2 x4 x6) FU (x3, 1, 0)) fun x_16 x_17 => if x_17 = 0 then lett (x4 + 0) fun x_18 => lett (x6 + 1) fun x_20 => some (.inl (x_16, x_18, x_20))
    else lett (x4 + 1) fun x_22 => lett (x6 + 1) fun x_24 => some (.inl (x_16, x_22, x_24))
def F_X9_depthsOf (M : Mem) (x1 : Int32) (x2 : Int32) : Option (Int64) :=
 bd2 (loop (X9_depthsOf_L8 M x1 x2) FU (0, 0, 0)) fun x_26 x_27 => if x_26 = 0 then some 1
 else some x_27
set_option maxRecDepth 100000 in
set_option maxHeartbeats 4000000 in
theorem j_X9_depthsOf_J51 (M : Mem) (x1 : Int32) (x2 : Int32) (x4 : Int64) (x6 : Int32) (x7 : Int32) (x8 : Int32) (s0 : Int32) {Po : Po_} (x : (Int32 × Int32 × Int32) ⊕ (Int32 × Int32)) (h : X9_depthsOf_J51 M x1 x2 x4 x6 x7 x8 s0 = some x) (hI : ∀ (ix3 : Int32) (ix7 : Int32) (ix8 : Int32), x = .inl (ix3, ix7, ix8) → T RX9 cX9_depthsOf 9 (some .long) 1 3 0 0 false Po 20 [aR (some 0), aI x1, aI x2, aI ix3, aJ x4, aU, aI x6, aI ix7, aI ix8] [] LAYM rfm M 0 0) (hE0 : ∀ (e3 : Int32) (e7 : Int32), x = .inr (e3, e7) → T RX9 cX9_depthsOf 9 (some .long) 1 3 0 0 false Po 93 [aR (some 0), aI x1, aI x2, aI e3, aJ x4, aU, aI x6, aI e7, aU] [] LAYM rfm M 0 0) : T RX9 cX9_depthsOf 9 (some .long) 1 3 0 0 false Po 51 [aR (some 0), aI x1, aI x2, aU, aJ x4, aU, aI x6, aI x7, aI x8] [vI s0] LAYM rfm M 0 0 := by
  unfold X9_depthsOf_J51 at h
  refine T_istore_n (i := 3) (L' := [aR (some 0), aI x1, aI x2, aI s0, aJ x4, aU, aI x6, aI x7, aI x8]) dX9_depthsOf_51 rfl (Nat.le_of_ble_eq_true rfl) rfl ?_
  refine T_iload dX9_depthsOf_52 rfl ?_
  refine T_if_eq (tgt := 84) dX9_depthsOf_54 (by decide) (fun hc => ?_) (fun hc => ?_)
  · have h := it_pos hc h
    refine T_iconst dX9_depthsOf_84 ic_0 ?_
    refine T_istore (i := 7) (L' := [aR (some 0), aI x1, aI x2, aI s0, aJ x4, aU, aI x6, aI 0, aI x8]) dX9_depthsOf_85 (Nat.le_of_ble_eq_true rfl) rfl ?_
    obtain ⟨x_2, ex_3, h⟩ := lett_some h
    refine T_iinc (L' := [aR (some 0), aI x1, aI x2, aI s0, aJ x4, aU, aI x6, aI 0, aI x_2]) dX9_depthsOf_87 rfl (ic_inc ic_3 ex_3) (Nat.le_of_ble_eq_true rfl) rfl ?_
    refine T_goto (tgt := 20) dX9_depthsOf_90 (by decide) ?_
    obtain rfl := sm1 h
    exact hI _ _ _ rfl
  · have h := it_neg hc h
    refine T_aload_n dX9_depthsOf_57 rfl ?_
    refine T_iload_n dX9_depthsOf_58 rfl ?_
    refine T_iload dX9_depthsOf_59 rfl ?_
    obtain ⟨r_4, hc_5, h⟩ := bd1_some h
    refine T_cvi (as := [vI x1, vI x8]) dX9_depthsOf_61 cw_X9_rowAt ml_X9_101 mi_X9_rowAt se_X9_rowAt lyM_0 rfl (by decide) rfl (Nat.le_of_ble_eq_true rfl) (Nat.le_of_ble_eq_true rfl) (m_X9_rowAt  M x1 x8  _ hc_5) ?_
    refine T_iload_n dX9_depthsOf_64 rfl ?_
    refine T_icmp_ne (tgt := 80) dX9_depthsOf_65 (by decide) (fun hc => ?_) (fun hc => ?_)
    · have h := it_neg hc h
      refine T_iconst dX9_depthsOf_80 ic_1 ?_
      refine T_goto (tgt := 85) dX9_depthsOf_81 (by decide) ?_
      refine T_istore (i := 7) (L' := [aR (some 0), aI x1, aI x2, aI s0, aJ x4, aU, aI x6, aI 1, aI x8]) dX9_depthsOf_85 (Nat.le_of_ble_eq_true rfl) rfl ?_
      obtain ⟨x_6, ex_7, h⟩ := lett_some h
      refine T_iinc (L' := [aR (some 0), aI x1, aI x2, aI s0, aJ x4, aU, aI x6, aI 1, aI x_6]) dX9_depthsOf_87 rfl (ic_inc ic_3 ex_7) (Nat.le_of_ble_eq_true rfl) rfl ?_
      refine T_goto (tgt := 20) dX9_depthsOf_90 (by decide) ?_
      obtain rfl := sm1 h
      exact hI _ _ _ rfl
    · have h := it_pos hc h
      refine T_aload_n dX9_depthsOf_68 rfl ?_
      refine T_iload_n dX9_depthsOf_69 rfl ?_
      refine T_iload dX9_depthsOf_70 rfl ?_
      refine T_iload dX9_depthsOf_72 rfl ?_
      obtain ⟨r_8, hc_9, h⟩ := bd1_some h
      refine T_cvi (as := [vI x1, vI x8, vI x6]) dX9_depthsOf_74 cw_X9_doesLie ml_X9_316 mi_X9_doesLie se_X9_doesLie lyM_0 rfl (by decide) rfl (Nat.le_of_ble_eq_true rfl) (Nat.le_of_ble_eq_true rfl) (m_X9_doesLie  M x1 x8 x6  _ hc_9) ?_
      refine T_if_ne (tgt := 84) dX9_depthsOf_77 (by decide) (fun hc => ?_) (fun hc => ?_)
      · have h := it_neg hc h
        refine T_iconst dX9_depthsOf_84 ic_0 ?_
        refine T_istore (i := 7) (L' := [aR (some 0), aI x1, aI x2, aI s0, aJ x4, aU, aI x6, aI 0, aI x8]) dX9_depthsOf_85 (Nat.le_of_ble_eq_true rfl) rfl ?_
        obtain ⟨x_10, ex_11, h⟩ := lett_some h
        refine T_iinc (L' := [aR (some 0), aI x1, aI x2, aI s0, aJ x4, aU, aI x6, aI 0, aI x_10]) dX9_depthsOf_87 rfl (ic_inc ic_3 ex_11) (Nat.le_of_ble_eq_true rfl) rfl ?_
        refine T_goto (tgt := 20) dX9_depthsOf_90 (by decide) ?_
        obtain rfl := sm1 h
        exact hI _ _ _ rfl
      · have h := it_pos hc h
        refine T_iconst dX9_depthsOf_80 ic_1 ?_
        refine T_goto (tgt := 85) dX9_depthsOf_81 (by decide) ?_
        refine T_istore (i := 7) (L' := [aR (some 0), aI x1, aI x2, aI s0, aJ x4, aU, aI x6, aI 1, aI x8]) dX9_depthsOf_85 (Nat.le_of_ble_eq_true rfl) rfl ?_
        obtain ⟨x_12, ex_13, h⟩ := lett_some h
        refine T_iinc (L' := [aR (some 0), aI x1, aI x2, aI s0, aJ x4, aU, aI x6, aI 1, aI x_12]) dX9_depthsOf_87 rfl (ic_inc ic_3 ex_13) (Nat.le_of_ble_eq_true rfl) rfl ?_
        refine T_goto (tgt := 20) dX9_depthsOf_90 (by decide) ?_
        obtain rfl := sm1 h
        exact hI _ _ _ rfl
set_option maxRecDepth 100000 in
set_option maxHeartbeats 4000000 in
theorem j_X9_depthsOf_J46 (M : Mem) (x1 : Int32) (x2 : Int32) (x4 : Int64) (x6 : Int32) (x7 : Int32) (x8 : Int32) {Po : Po_} (x : (Int32 × Int32 × Int32) ⊕ (Int32 × Int32)) (h : X9_depthsOf_J46 M x1 x2 x4 x6 x7 x8 = some x) (hI : ∀ (ix3 : Int32) (ix7 : Int32) (ix8 : Int32), x = .inl (ix3, ix7, ix8) → T RX9 cX9_depthsOf 9 (some .long) 1 3 0 0 false Po 20 [aR (some 0), aI x1, aI x2, aI ix3, aJ x4, aU, aI x6, aI ix7, aI ix8] [] LAYM rfm M 0 0) (hE0 : ∀ (e3 : Int32) (e7 : Int32), x = .inr (e3, e7) → T RX9 cX9_depthsOf 9 (some .long) 1 3 0 0 false Po 93 [aR (some 0), aI x1, aI x2, aI e3, aJ x4, aU, aI x6, aI e7, aU] [] LAYM rfm M 0 0) : T RX9 cX9_depthsOf 9 (some .long) 1 3 0 0 false Po 46 [aR (some 0), aI x1, aI x2, aU, aJ x4, aU, aI x6, aI x7, aI x8] [] LAYM rfm M 0 0 := by
  unfold X9_depthsOf_J46 at h
  refine T_iconst dX9_depthsOf_46 ic_1 ?_
  refine T_goto (tgt := 51) dX9_depthsOf_47 (by decide) ?_
  exact j_X9_depthsOf_J51  M x1 x2 x4 x6 x7 x8 1  _ h hI hE0
set_option maxRecDepth 100000 in
set_option maxHeartbeats 4000000 in
theorem s_X9_depthsOf_L20 (M : Mem) (x1 : Int32) (x2 : Int32) (x4 : Int64) (x6 : Int32) (x3 : Int32) (x7 : Int32) (x8 : Int32) {Po : Po_} (x : (Int32 × Int32 × Int32) ⊕ (Int32 × Int32)) (h : X9_depthsOf_L20 M x1 x2 x4 x6 (x3, x7, x8) = some x) (hI : ∀ (ix3 : Int32) (ix7 : Int32) (ix8 : Int32), x = .inl (ix3, ix7, ix8) → T RX9 cX9_depthsOf 9 (some .long) 1 3 0 0 false Po 20 [aR (some 0), aI x1, aI x2, aI ix3, aJ x4, aU, aI x6, aI ix7, aI ix8] [] LAYM rfm M 0 0) (hE0 : ∀ (e3 : Int32) (e7 : Int32), x = .inr (e3, e7) → T RX9 cX9_depthsOf 9 (some .long) 1 3 0 0 false Po 93 [aR (some 0), aI x1, aI x2, aI e3, aJ x4, aU, aI x6, aI e7, aU] [] LAYM rfm M 0 0) : T RX9 cX9_depthsOf 9 (some .long) 1 3 0 0 false Po 20 [aR (some 0), aI x1, aI x2, aI x3, aJ x4, aU, aI x6, aI x7, aI x8] [] LAYM rfm M 0 0 := by
  unfold X9_depthsOf_L20 at h
  simp only at h
  refine T_iload dX9_depthsOf_20 rfl ?_
  refine T_aload_n dX9_depthsOf_22 rfl ?_
  refine T_getR dX9_depthsOf_23 clOK_X9 fl_X9_17 lyM_0 rfl rfl ?_
  refine T_iload_n dX9_depthsOf_26 rfl ?_
  obtain ⟨hi_1, h⟩ := chk_some h
  refine T_iald dX9_depthsOf_27 lyM_2 (inb_in hi_1) ?_
  refine T_icmp_ge (tgt := 93) dX9_depthsOf_28 (by decide) (fun hc => ?_) (fun hc => ?_)
  · have h := it_pos hc h
    obtain rfl := sm1 h
    refine T_mask [true, true, true, true, true, true, true, true, false] rfl ?_
    exact hE0 _ _ rfl
  · have h := it_neg hc h
    refine T_iload_n dX9_depthsOf_31 rfl ?_
    refine T_if_ne (tgt := 46) dX9_depthsOf_32 (by decide) (fun hc => ?_) (fun hc => ?_)
    · have h := it_neg hc h
      refine T_mask [true, true, true, false, true, true, true, true, true] rfl ?_
      exact j_X9_depthsOf_J46  M x1 x2 x4 x6 x7 x8  _ h hI hE0
    · have h := it_pos hc h
      refine T_aload_n dX9_depthsOf_35 rfl ?_
      refine T_iload_n dX9_depthsOf_36 rfl ?_
      refine T_iload dX9_depthsOf_37 rfl ?_
      obtain ⟨r_14, hc_15, h⟩ := bd1_some h
      refine T_cvi (as := [vI x1, vI x8]) dX9_depthsOf_39 cw_X9_rowAt ml_X9_101 mi_X9_rowAt se_X9_rowAt lyM_0 rfl (by decide) rfl (Nat.le_of_ble_eq_true rfl) (Nat.le_of_ble_eq_true rfl) (m_X9_rowAt  M x1 x8  _ hc_15) ?_
      refine T_iload_n dX9_depthsOf_42 rfl ?_
      refine T_icmp_ne (tgt := 50) dX9_depthsOf_43 (by decide) (fun hc => ?_) (fun hc => ?_)
      · have h := it_neg hc h
        refine T_iconst dX9_depthsOf_50 ic_0 ?_
        refine T_mask [true, true, true, false, true, true, true, true, true] rfl ?_
        exact j_X9_depthsOf_J51  M x1 x2 x4 x6 x7 x8 0  _ h hI hE0
      · have h := it_pos hc h
        refine T_mask [true, true, true, false, true, true, true, true, true] rfl ?_
        exact j_X9_depthsOf_J46  M x1 x2 x4 x6 x7 x8  _ h hI hE0
set_option maxRecDepth 100000 in
set_option maxHeartbeats 4000000 in
theorem l_X9_depthsOf_L20 (M : Mem) (x1 : Int32) (x2 : Int32) (x4 : Int64) (x6 : Int32) {Po : Po_} (e3 : Int32) (e7 : Int32) : ∀ (k : Nat) (x3 : Int32) (x7 : Int32) (x8 : Int32), loop (X9_depthsOf_L20 M x1 x2 x4 x6) k (x3, x7, x8) = some (e3, e7) → (T RX9 cX9_depthsOf 9 (some .long) 1 3 0 0 false Po 93 [aR (some 0), aI x1, aI x2, aI e3, aJ x4, aU, aI x6, aI e7, aU] [] LAYM rfm M 0 0) → T RX9 cX9_depthsOf 9 (some .long) 1 3 0 0 false Po 20 [aR (some 0), aI x1, aI x2, aI x3, aJ x4, aU, aI x6, aI x7, aI x8] [] LAYM rfm M 0 0 := by
  intro k
  induction k with
  | zero => intro x3 x7 x8 h; cases h
  | succ k ih =>
    intro x3 x7 x8 h hE
    obtain ⟨x, hx, hx1, hx2⟩ := loop_succ h
    exact s_X9_depthsOf_L20  M x1 x2 x4 x6  x3 x7 x8 x hx (fun q0 q1 q2 e => ih q0 q1 q2 (hx1 _ e) hE) (fun q0 q1 e => by cases hx2 _ e; exact hE)
set_option maxRecDepth 100000 in
set_option maxHeartbeats 4000000 in
theorem s_X9_depthsOf_L8 (M : Mem) (x1 : Int32) (x2 : Int32) (x3 : Int32) (x4 : Int64) (x6 : Int32) {Po : Po_} (x : (Int32 × Int64 × Int32) ⊕ (Int32 × Int64)) (h : X9_depthsOf_L8 M x1 x2 (x3, x4, x6) = some x) (hI : ∀ (ix3 : Int32) (ix4 : Int64) (ix6 : Int32), x = .inl (ix3, ix4, ix6) → T RX9 cX9_depthsOf 9 (some .long) 1 3 0 0 false Po 8 [aR (some 0), aI x1, aI x2, aI ix3, aJ ix4, aU, aI ix6, aU, aU] [] LAYM rfm M 0 0) (hE0 : ∀ (e3 : Int32) (e4 : Int64), x = .inr (e3, e4) → T RX9 cX9_depthsOf 9 (some .long) 1 3 0 0 false Po 114 [aU, aU, aU, aI e3, aJ e4, aU, aU, aU, aU] [] LAYM rfm M 0 0) : T RX9 cX9_depthsOf 9 (some .long) 1 3 0 0 false Po 8 [aR (some 0), aI x1, aI x2, aI x3, aJ x4, aU, aI x6, aU, aU] [] LAYM rfm M 0 0 := by
  unfold X9_depthsOf_L8 at h
  simp only at h
  refine T_iload dX9_depthsOf_8 rfl ?_
  refine T_iconst dX9_depthsOf_10 ic_5 ?_
  refine T_icmp_gt (tgt := 114) dX9_depthsOf_11 (by decide) (fun hc => ?_) (fun hc => ?_)
  · have h := it_pos hc h
    obtain rfl := sm1 h
    refine T_mask [false, false, false, true, true, true, false, true, true] rfl ?_
    exact hE0 _ _ rfl
  · have h := it_neg hc h
    refine T_iconst dX9_depthsOf_14 ic_1 ?_
    refine T_istore (i := 7) (L' := [aR (some 0), aI x1, aI x2, aI x3, aJ x4, aU, aI x6, aI 1, aU]) dX9_depthsOf_15 (Nat.le_of_ble_eq_true rfl) rfl ?_
    refine T_iconst dX9_depthsOf_17 ic_0 ?_
    refine T_istore (i := 8) (L' := [aR (some 0), aI x1, aI x2, aI x3, aJ x4, aU, aI x6, aI 1, aI 0]) dX9_depthsOf_18 (Nat.le_of_ble_eq_true rfl) rfl ?_
    obtain ⟨x_16, x_17, hl, h⟩ := bd2_some h
    refine l_X9_depthsOf_L20  M x1 x2 x4 x6  _ _ FU x3 1 0 hl ?_
    refine T_lload dX9_depthsOf_93 rfl ?_
    refine T_iload dX9_depthsOf_95 rfl ?_
    refine T_if_eq (tgt := 104) dX9_depthsOf_97 (by decide) (fun hc => ?_) (fun hc => ?_)
    · have h := it_pos hc h
      refine T_lconst dX9_depthsOf_104 lc_0 ?_
      refine T_ladd dX9_depthsOf_105 ?_
      obtain ⟨x_18, ex_19, h⟩ := lett_some h
      refine T_topJ ex_19 ?_
      refine T_lstore (i := 4) (L' := [aR (some 0), aI x1, aI x2, aI x_16, aJ x_18, aU, aI x6, aI x_17, aU]) dX9_depthsOf_106 (Nat.le_of_ble_eq_true rfl) rfl ?_
      obtain ⟨x_20, ex_21, h⟩ := lett_some h
      refine T_iinc (L' := [aR (some 0), aI x1, aI x2, aI x_16, aJ x_18, aU, aI x_20, aI x_17, aU]) dX9_depthsOf_108 rfl (ic_inc ic_1 ex_21) (Nat.le_of_ble_eq_true rfl) rfl ?_
      refine T_goto (tgt := 8) dX9_depthsOf_111 (by decide) ?_
      obtain rfl := sm1 h
      refine T_mask [true, true, true, true, true, true, true, false, true] rfl ?_
      exact hI _ _ _ rfl
    · have h := it_neg hc h
      refine T_lconst dX9_depthsOf_100 lc_1 ?_
      refine T_goto (tgt := 105) dX9_depthsOf_101 (by decide) ?_
      refine T_ladd dX9_depthsOf_105 ?_
      obtain ⟨x_22, ex_23, h⟩ := lett_some h
      refine T_topJ ex_23 ?_
      refine T_lstore (i := 4) (L' := [aR (some 0), aI x1, aI x2, aI x_16, aJ x_22, aU, aI x6, aI x_17, aU]) dX9_depthsOf_106 (Nat.le_of_ble_eq_true rfl) rfl ?_
      obtain ⟨x_24, ex_25, h⟩ := lett_some h
      refine T_iinc (L' := [aR (some 0), aI x1, aI x2, aI x_16, aJ x_22, aU, aI x_24, aI x_17, aU]) dX9_depthsOf_108 rfl (ic_inc ic_1 ex_25) (Nat.le_of_ble_eq_true rfl) rfl ?_
      refine T_goto (tgt := 8) dX9_depthsOf_111 (by decide) ?_
      obtain rfl := sm1 h
      refine T_mask [true, true, true, true, true, true, true, false, true] rfl ?_
      exact hI _ _ _ rfl
set_option maxRecDepth 100000 in
set_option maxHeartbeats 4000000 in
theorem l_X9_depthsOf_L8 (M : Mem) (x1 : Int32) (x2 : Int32) {Po : Po_} (e3 : Int32) (e4 : Int64) : ∀ (k : Nat) (x3 : Int32) (x4 : Int64) (x6 : Int32), loop (X9_depthsOf_L8 M x1 x2) k (x3, x4, x6) = some (e3, e4) → (T RX9 cX9_depthsOf 9 (some .long) 1 3 0 0 false Po 114 [aU, aU, aU, aI e3, aJ e4, aU, aU, aU, aU] [] LAYM rfm M 0 0) → T RX9 cX9_depthsOf 9 (some .long) 1 3 0 0 false Po 8 [aR (some 0), aI x1, aI x2, aI x3, aJ x4, aU, aI x6, aU, aU] [] LAYM rfm M 0 0 := by
  intro k
  induction k with
  | zero => intro x3 x4 x6 h; cases h
  | succ k ih =>
    intro x3 x4 x6 h hE
    obtain ⟨x, hx, hx1, hx2⟩ := loop_succ h
    exact s_X9_depthsOf_L8  M x1 x2  x3 x4 x6 x hx (fun q0 q1 q2 e => ih q0 q1 q2 (hx1 _ e) hE) (fun q0 q1 e => by cases hx2 _ e; exact hE)
set_option maxRecDepth 100000 in
set_option maxHeartbeats 4000000 in
theorem m_X9_depthsOf (M : Mem) (x1 : Int32) (x2 : Int32) (r : Int64) (h : F_X9_depthsOf M x1 x2 = some r) : Cal yX9_depthsOf cX9_depthsOf 9 (some .long) 1 3 0 0 false [vR (some 0), vI x1, vI x2] LAYM rfm M (eqp (vJ r) LAYM rfm M) := by
  refine Cal.of (by decide +kernel) (Nat.le_of_ble_eq_true rfl) (fun h => by cases h) ?_
  unfold F_X9_depthsOf at h
  show T RX9 cX9_depthsOf 9 (some .long) 1 3 0 0 false (eqp (vJ r) LAYM rfm M) 0 [aR (some 0), aI x1, aI x2, aU, aU, aU, aU, aU, aU] [] LAYM rfm M 0 0
  refine T_iconst dX9_depthsOf_0 ic_0 ?_
  refine T_istore_n (i := 3) (L' := [aR (some 0), aI x1, aI x2, aI 0, aU, aU, aU, aU, aU]) dX9_depthsOf_1 rfl (Nat.le_of_ble_eq_true rfl) rfl ?_
  refine T_lconst dX9_depthsOf_2 lc_0 ?_
  refine T_lstore (i := 4) (L' := [aR (some 0), aI x1, aI x2, aI 0, aJ 0, aU, aU, aU, aU]) dX9_depthsOf_3 (Nat.le_of_ble_eq_true rfl) rfl ?_
  refine T_iconst dX9_depthsOf_5 ic_0 ?_
  refine T_istore (i := 6) (L' := [aR (some 0), aI x1, aI x2, aI 0, aJ 0, aU, aI 0, aU, aU]) dX9_depthsOf_6 (Nat.le_of_ble_eq_true rfl) rfl ?_
  obtain ⟨x_26, x_27, hl, h⟩ := bd2_some h
  refine l_X9_depthsOf_L8  M x1 x2  _ _ FU 0 0 0 hl ?_
  refine T_iload_n dX9_depthsOf_114 rfl ?_
  refine T_if_eq (tgt := 123) dX9_depthsOf_115 (by decide) (fun hc => ?_) (fun hc => ?_)
  · have h := it_pos hc h
    refine T_lconst dX9_depthsOf_123 lc_1 ?_
    obtain rfl := sm1 h
    exact T_lret dX9_depthsOf_124 ⟨rfl, rfl, rfl, rfl⟩
  · have h := it_neg hc h
    refine T_lload dX9_depthsOf_118 rfl ?_
    refine T_goto (tgt := 124) dX9_depthsOf_120 (by decide) ?_
    obtain rfl := sm1 h
    exact T_lret dX9_depthsOf_124 ⟨rfl, rfl, rfl, rfl⟩
def X9_grounds_L17 (M : Mem) (x1 : Int32) : Int64 × Int32 → Option ((Int64 × Int32) ⊕ (Int32 × Mem))
  | (x3, x5) =>
    if (gI M 0 11) ≤ x5 then bd2 (F_X9_part M x3 1) fun r_4 M_5 => some (.inr (r_4, M_5))
    else bd1 (F_X9_depthsOf M x1 x5) fun r_7 => lett (x3 * r_7) fun x_9 => lett (x5 + 1) fun x_11 => some (.inl (x_9, x_11))
def F_X9_grounds (M : Mem) (x1 : Int32) : Option (Int32 × Mem) :=
 bd2 (F_X9_askedWitnesses M x1) fun r_1 M_2 => if 0 ≤ r_1 then loop (X9_grounds_L17 M_2 x1) FU (1, 0)
 else some (r_1, M_2)
set_option maxRecDepth 100000 in
set_option maxHeartbeats 4000000 in
theorem s_X9_grounds_L17 (M : Mem) (x1 : Int32) (x3 : Int64) (x5 : Int32) {Po : Po_} (x : (Int64 × Int32) ⊕ (Int32 × Mem)) (h : X9_grounds_L17 M x1 (x3, x5) = some x) (hI : ∀ (ix3 : Int64) (ix5 : Int32), x = .inl (ix3, ix5) → T RX9 cX9_grounds 6 (some .int) 0 5 0 0 false Po 17 [aR (some 0), aI x1, aU, aJ ix3, aU, aI ix5] [] LAYM rfm M 0 0) (hE0 : ∀ (er : Int32) (eM : Mem), x = .inr (er, eM) → Po (vI er) LAYM rfm eM) : T RX9 cX9_grounds 6 (some .int) 0 5 0 0 false Po 17 [aR (some 0), aI x1, aU, aJ x3, aU, aI x5] [] LAYM rfm M 0 0 := by
  unfold X9_grounds_L17 at h
  simp only at h
  refine T_iload dX9_grounds_17 rfl ?_
  refine T_aload_n dX9_grounds_19 rfl ?_
  refine T_getI dX9_grounds_20 clOK_X9 fl_X9_155 lyM_0 rfl ?_
  refine T_icmp_ge (tgt := 42) dX9_grounds_23 (by decide) (fun hc => ?_) (fun hc => ?_)
  · have h := it_pos hc h
    refine T_aload_n dX9_grounds_42 rfl ?_
    refine T_lload_n dX9_grounds_43 rfl ?_
    refine T_lconst dX9_grounds_44 lc_1 ?_
    obtain ⟨r_4, M_5, hc_6, h⟩ := bd2_some h
    refine T_cvi (as := [vJ x3, vJ 1]) dX9_grounds_45 cw_X9_part ml_X9_308 mi_X9_part se_X9_part lyM_0 rfl (by decide) rfl (Nat.le_of_ble_eq_true rfl) (Nat.le_of_ble_eq_true rfl) (m_X9_part  M x3 1  _ _ hc_6) ?_
    obtain rfl := sm1 h
    exact T_iret dX9_grounds_48 (hE0 _ _ rfl)
  · have h := it_neg hc h
    refine T_lload_n dX9_grounds_26 rfl ?_
    refine T_aload_n dX9_grounds_27 rfl ?_
    refine T_iload_n dX9_grounds_28 rfl ?_
    refine T_iload dX9_grounds_29 rfl ?_
    obtain ⟨r_7, hc_8, h⟩ := bd1_some h
    refine T_cvl (as := [vI x1, vI x5]) dX9_grounds_31 cw_X9_depthsOf ml_X9_326 mi_X9_depthsOf se_X9_depthsOf lyM_0 rfl (by decide) rfl (Nat.le_of_ble_eq_true rfl) (Nat.le_of_ble_eq_true rfl) (m_X9_depthsOf  M x1 x5  _ hc_8) ?_
    refine T_lmul dX9_grounds_34 ?_
    obtain ⟨x_9, ex_10, h⟩ := lett_some h
    refine T_topJ ex_10 ?_
    refine T_lstore_n (i := 3) (L' := [aR (some 0), aI x1, aU, aJ x_9, aU, aI x5]) dX9_grounds_35 rfl (Nat.le_of_ble_eq_true rfl) rfl ?_
    obtain ⟨x_11, ex_12, h⟩ := lett_some h
    refine T_iinc (L' := [aR (some 0), aI x1, aU, aJ x_9, aU, aI x_11]) dX9_grounds_36 rfl (ic_inc ic_1 ex_12) (Nat.le_of_ble_eq_true rfl) rfl ?_
    refine T_goto (tgt := 17) dX9_grounds_39 (by decide) ?_
    obtain rfl := sm1 h
    exact hI _ _ rfl
set_option maxRecDepth 100000 in
set_option maxHeartbeats 4000000 in
theorem l_X9_grounds_L17 (M : Mem) (x1 : Int32) {Po : Po_} (er : Int32) (eM : Mem) : ∀ (k : Nat) (x3 : Int64) (x5 : Int32), loop (X9_grounds_L17 M x1) k (x3, x5) = some (er, eM) → (Po (vI er) LAYM rfm eM) → T RX9 cX9_grounds 6 (some .int) 0 5 0 0 false Po 17 [aR (some 0), aI x1, aU, aJ x3, aU, aI x5] [] LAYM rfm M 0 0 := by
  intro k
  induction k with
  | zero => intro x3 x5 h; cases h
  | succ k ih =>
    intro x3 x5 h hE
    obtain ⟨x, hx, hx1, hx2⟩ := loop_succ h
    exact s_X9_grounds_L17  M x1  x3 x5 x hx (fun q0 q1 e => ih q0 q1 (hx1 _ e) hE) (fun q0 q1 e => by cases hx2 _ e; exact hE)
set_option maxRecDepth 100000 in
set_option maxHeartbeats 4000000 in
theorem m_X9_grounds (M : Mem) (x1 : Int32) (r : Int32) (M' : Mem) (h : F_X9_grounds M x1 = some (r, M')) : Cal yX9_grounds cX9_grounds 6 (some .int) 0 5 0 0 false [vR (some 0), vI x1] LAYM rfm M (eqp (vI r) LAYM rfm M') := by
  refine Cal.of (by decide +kernel) (Nat.le_of_ble_eq_true rfl) (fun h => by cases h) ?_
  unfold F_X9_grounds at h
  show T RX9 cX9_grounds 6 (some .int) 0 5 0 0 false (eqp (vI r) LAYM rfm M') 0 [aR (some 0), aI x1, aU, aU, aU, aU] [] LAYM rfm M 0 0
  refine T_aload_n dX9_grounds_0 rfl ?_
  refine T_iload_n dX9_grounds_1 rfl ?_
  obtain ⟨r_1, M_2, hc_3, h⟩ := bd2_some h
  refine T_cvi (as := [vI x1]) dX9_grounds_2 cw_X9_askedWitnesses ml_X9_319 mi_X9_askedWitnesses se_X9_askedWitnesses lyM_0 rfl (by decide) rfl (Nat.le_of_ble_eq_true rfl) (Nat.le_of_ble_eq_true rfl) (m_X9_askedWitnesses  M x1  _ _ hc_3) ?_
  refine T_istore_n (i := 2) (L' := [aR (some 0), aI x1, aI r_1, aU, aU, aU]) dX9_grounds_5 rfl (Nat.le_of_ble_eq_true rfl) rfl ?_
  refine T_iload_n dX9_grounds_6 rfl ?_
  refine T_if_ge (tgt := 12) dX9_grounds_7 (by decide) (fun hc => ?_) (fun hc => ?_)
  · have h := it_pos hc h
    refine T_lconst dX9_grounds_12 lc_1 ?_
    refine T_lstore_n (i := 3) (L' := [aR (some 0), aI x1, aI r_1, aJ 1, aU, aU]) dX9_grounds_13 rfl (Nat.le_of_ble_eq_true rfl) rfl ?_
    refine T_iconst dX9_grounds_14 ic_0 ?_
    refine T_istore (i := 5) (L' := [aR (some 0), aI x1, aI r_1, aJ 1, aU, aI 0]) dX9_grounds_15 (Nat.le_of_ble_eq_true rfl) rfl ?_
    refine T_mask [true, true, false, true, true, true] rfl ?_
    exact l_X9_grounds_L17  M_2 x1  _ _ FU 1 0 h ⟨rfl, rfl, rfl, rfl⟩
  · have h := it_neg hc h
    refine T_iload_n dX9_grounds_10 rfl ?_
    obtain ⟨rfl, rfl⟩ := sm2 h
    exact T_iret dX9_grounds_11 ⟨rfl, rfl, rfl, rfl⟩
def X9_power_L5 (x0 : Int64) (x2 : Int32) : Int64 × Int32 → Option ((Int64 × Int32) ⊕ (Int64))
  | (x3, x5) =>
    if x2 ≤ x5 then some (.inr x3)
    else lett (x3 * x0) fun x_1 => lett (x5 + 1) fun x_3 => some (.inl (x_1, x_3))
def F_X9_power (x0 : Int64) (x2 : Int32) : Option (Int64) :=
 loop (X9_power_L5 x0 x2) FU (1, 0)
set_option maxRecDepth 100000 in
set_option maxHeartbeats 4000000 in
theorem s_X9_power_L5 (M : Mem) (x0 : Int64) (x2 : Int32) (x3 : Int64) (x5 : Int32) {Po : Po_} (x : (Int64 × Int32) ⊕ (Int64)) (h : X9_power_L5 x0 x2 (x3, x5) = some x) (hI : ∀ (ix3 : Int64) (ix5 : Int32), x = .inl (ix3, ix5) → T RX9 cX9_power 6 (some .long) 1 1 0 0 false Po 5 [aJ x0, aU, aI x2, aJ ix3, aU, aI ix5] [] LAYM rfm M 0 0) (hE0 : ∀ (er : Int64), x = .inr er → Po (vJ er) LAYM rfm M) : T RX9 cX9_power 6 (some .long) 1 1 0 0 false Po 5 [aJ x0, aU, aI x2, aJ x3, aU, aI x5] [] LAYM rfm M 0 0 := by
  unfold X9_power_L5 at h
  simp only at h
  refine T_iload dX9_power_5 rfl ?_
  refine T_iload_n dX9_power_7 rfl ?_
  refine T_icmp_ge (tgt := 21) dX9_power_8 (by decide) (fun hc => ?_) (fun hc => ?_)
  · have h := it_pos hc h
    refine T_lload_n dX9_power_21 rfl ?_
    obtain rfl := sm1 h
    exact T_lret dX9_power_22 (hE0 _ rfl)
  · have h := it_neg hc h
    refine T_lload_n dX9_power_11 rfl ?_
    refine T_lload_n dX9_power_12 rfl ?_
    refine T_lmul dX9_power_13 ?_
    obtain ⟨x_1, ex_2, h⟩ := lett_some h
    refine T_topJ ex_2 ?_
    refine T_lstore_n (i := 3) (L' := [aJ x0, aU, aI x2, aJ x_1, aU, aI x5]) dX9_power_14 rfl (Nat.le_of_ble_eq_true rfl) rfl ?_
    obtain ⟨x_3, ex_4, h⟩ := lett_some h
    refine T_iinc (L' := [aJ x0, aU, aI x2, aJ x_1, aU, aI x_3]) dX9_power_15 rfl (ic_inc ic_1 ex_4) (Nat.le_of_ble_eq_true rfl) rfl ?_
    refine T_goto (tgt := 5) dX9_power_18 (by decide) ?_
    obtain rfl := sm1 h
    exact hI _ _ rfl
set_option maxRecDepth 100000 in
set_option maxHeartbeats 4000000 in
theorem l_X9_power_L5 (M : Mem) (x0 : Int64) (x2 : Int32) {Po : Po_} (er : Int64) : ∀ (k : Nat) (x3 : Int64) (x5 : Int32), loop (X9_power_L5 x0 x2) k (x3, x5) = some er → (Po (vJ er) LAYM rfm M) → T RX9 cX9_power 6 (some .long) 1 1 0 0 false Po 5 [aJ x0, aU, aI x2, aJ x3, aU, aI x5] [] LAYM rfm M 0 0 := by
  intro k
  induction k with
  | zero => intro x3 x5 h; cases h
  | succ k ih =>
    intro x3 x5 h hE
    obtain ⟨x, hx, hx1, hx2⟩ := loop_succ h
    exact s_X9_power_L5  M x0 x2  x3 x5 x hx (fun q0 q1 e => ih q0 q1 (hx1 _ e) hE) (fun q0 e => by cases hx2 _ e; exact hE)
set_option maxRecDepth 100000 in
set_option maxHeartbeats 4000000 in
theorem m_X9_power (M : Mem) (x0 : Int64) (x2 : Int32) (r : Int64) (h : F_X9_power x0 x2 = some r) : Cal yX9_power cX9_power 6 (some .long) 1 1 0 0 false [vJ x0, vI x2] LAYM rfm M (eqp (vJ r) LAYM rfm M) := by
  refine Cal.of (by decide +kernel) (Nat.le_of_ble_eq_true rfl) (fun h => by cases h) ?_
  unfold F_X9_power at h
  show T RX9 cX9_power 6 (some .long) 1 1 0 0 false (eqp (vJ r) LAYM rfm M) 0 [aJ x0, aU, aI x2, aU, aU, aU] [] LAYM rfm M 0 0
  refine T_lconst dX9_power_0 lc_1 ?_
  refine T_lstore_n (i := 3) (L' := [aJ x0, aU, aI x2, aJ 1, aU, aU]) dX9_power_1 rfl (Nat.le_of_ble_eq_true rfl) rfl ?_
  refine T_iconst dX9_power_2 ic_0 ?_
  refine T_istore (i := 5) (L' := [aJ x0, aU, aI x2, aJ 1, aU, aI 0]) dX9_power_3 (Nat.le_of_ble_eq_true rfl) rfl ?_
  exact l_X9_power_L5  M x0 x2  _ FU 1 0 h ⟨rfl, rfl, rfl, rfl⟩
def X9_odds_L25 (M : Mem) (x1 : Int32) (x2 : Int32) : Int32 × Int32 → Option ((Int32 × Int32) ⊕ (Int32))
  | (x3, x4) =>
    if (gI M 0 11) ≤ x4 then some (.inr x3)
    else chk (inb x1 8 = true) (bd1 (F_X9_has (gI M 11 x1.toNatClampNeg) x4) fun r_7 => if r_7 = 0 then lett (x3 + 0) fun x_9 => lett (x4 + 1) fun x_11 => some (.inl (x_9, x_11))
    else chk (inb x4 16 = true) (if (gI M 7 x4.toNatClampNeg) = 1 then lett (x3 + 1) fun x_18 => lett (x4 + 1) fun x_20 => some (.inl (x_18, x_20))
    else lett (x3 + 0) fun x_14 => lett (x4 + 1) fun x_16 => some (.inl (x_14, x_16))))
def F_X9_odds (M : Mem) (x1 : Int32) (x2 : Int32) : Option (Int32 × Mem) :=
 bd2 (F_X9_isHole M x1) fun r_1 M_2 => if r_1 = 0 then some ((-1), M_2)
 else bd1 (F_X9_in x2 0 (nI 12)) fun r_4 => if r_4 = 0 then some ((-1), M_2)
 else bd1 (loop (X9_odds_L25 M_2 x1 x2) FU (0, 0)) fun x_22 => bd2 (F_X9_part M_2 (((nI 12) - x2).toInt64) 12) fun r_23 M_24 => bd1 (F_X9_power (gJ M_24 0 3) x_22) fun r_26 => bd1 (F_X9_power (gJ M_24 0 4) x_22) fun r_28 => bd2 (F_X9_part M_24 r_26 r_28) fun r_30 M_31 => some (r_30, M_31)
set_option maxRecDepth 100000 in
set_option maxHeartbeats 4000000 in
theorem s_X9_odds_L25 (M : Mem) (x1 : Int32) (x2 : Int32) (x3 : Int32) (x4 : Int32) {Po : Po_} (x : (Int32 × Int32) ⊕ (Int32)) (h : X9_odds_L25 M x1 x2 (x3, x4) = some x) (hI : ∀ (ix3 : Int32) (ix4 : Int32), x = .inl (ix3, ix4) → T RX9 cX9_odds 5 (some .int) 0 6 0 0 false Po 25 [aR (some 0), aI x1, aI x2, aI ix3, aI ix4] [] LAYM rfm M 0 0) (hE0 : ∀ (e3 : Int32), x = .inr e3 → T RX9 cX9_odds 5 (some .int) 0 6 0 0 false Po 73 [aR (some 0), aU, aI x2, aI e3, aU] [] LAYM rfm M 0 0) : T RX9 cX9_odds 5 (some .int) 0 6 0 0 false Po 25 [aR (some 0), aI x1, aI x2, aI x3, aI x4] [] LAYM rfm M 0 0 := by
  unfold X9_odds_L25 at h
  simp only at h
  refine T_iload dX9_odds_25 rfl ?_
  refine T_aload_n dX9_odds_27 rfl ?_
  refine T_getI dX9_odds_28 clOK_X9 fl_X9_155 lyM_0 rfl ?_
  refine T_icmp_ge (tgt := 73) dX9_odds_31 (by decide) (fun hc => ?_) (fun hc => ?_)
  · have h := it_pos hc h
    obtain rfl := sm1 h
    refine T_mask [true, false, true, true, false] rfl ?_
    exact hE0 _ rfl
  · have h := it_neg hc h
    refine T_iload_n dX9_odds_34 rfl ?_
    refine T_aload_n dX9_odds_35 rfl ?_
    refine T_getR dX9_odds_36 clOK_X9 fl_X9_44 lyM_0 rfl rfl ?_
    refine T_iload_n dX9_odds_39 rfl ?_
    obtain ⟨hi_6, h⟩ := chk_some h
    refine T_iald dX9_odds_40 lyM_11 (inb_in hi_6) ?_
    refine T_iload dX9_odds_41 rfl ?_
    obtain ⟨r_7, hc_8, h⟩ := bd1_some h
    refine T_csi (as := [vI (gI M 11 x1.toNatClampNeg), vI x4]) dX9_odds_43 cw_X9_has ml_X9_170 mt_X9_has rfl (Nat.le_of_ble_eq_true rfl) (Nat.le_of_ble_eq_true rfl) (m_X9_has M (gI M 11 x1.toNatClampNeg) x4  _ hc_8) ?_
    refine T_if_eq (tgt := 64) dX9_odds_46 (by decide) (fun hc => ?_) (fun hc => ?_)
    · have h := it_pos hc h
      refine T_iconst dX9_odds_64 ic_0 ?_
      refine T_iadd dX9_odds_65 ?_
      obtain ⟨x_9, ex_10, h⟩ := lett_some h
      refine T_topI ex_10 ?_
      refine T_istore_n (i := 3) (L' := [aR (some 0), aI x1, aI x2, aI x_9, aI x4]) dX9_odds_66 rfl (Nat.le_of_ble_eq_true rfl) rfl ?_
      obtain ⟨x_11, ex_12, h⟩ := lett_some h
      refine T_iinc (L' := [aR (some 0), aI x1, aI x2, aI x_9, aI x_11]) dX9_odds_67 rfl (ic_inc ic_1 ex_12) (Nat.le_of_ble_eq_true rfl) rfl ?_
      refine T_goto (tgt := 25) dX9_odds_70 (by decide) ?_
      obtain rfl := sm1 h
      exact hI _ _ rfl
    · have h := it_neg hc h
      refine T_aload_n dX9_odds_49 rfl ?_
      refine T_getR dX9_odds_50 clOK_X9 fl_X9_32 lyM_0 rfl rfl ?_
      refine T_iload dX9_odds_53 rfl ?_
      obtain ⟨hi_13, h⟩ := chk_some h
      refine T_iald dX9_odds_55 lyM_7 (inb_in hi_13) ?_
      refine T_iconst dX9_odds_56 ic_1 ?_
      refine T_icmp_ne (tgt := 64) dX9_odds_57 (by decide) (fun hc => ?_) (fun hc => ?_)
      · have h := it_neg hc h
        refine T_iconst dX9_odds_64 ic_0 ?_
        refine T_iadd dX9_odds_65 ?_
        obtain ⟨x_14, ex_15, h⟩ := lett_some h
        refine T_topI ex_15 ?_
        refine T_istore_n (i := 3) (L' := [aR (some 0), aI x1, aI x2, aI x_14, aI x4]) dX9_odds_66 rfl (Nat.le_of_ble_eq_true rfl) rfl ?_
        obtain ⟨x_16, ex_17, h⟩ := lett_some h
        refine T_iinc (L' := [aR (some 0), aI x1, aI x2, aI x_14, aI x_16]) dX9_odds_67 rfl (ic_inc ic_1 ex_17) (Nat.le_of_ble_eq_true rfl) rfl ?_
        refine T_goto (tgt := 25) dX9_odds_70 (by decide) ?_
        obtain rfl := sm1 h
        exact hI _ _ rfl
      · have h := it_pos hc h
        refine T_iconst dX9_odds_60 ic_1 ?_
        refine T_goto (tgt := 65) dX9_odds_61 (by decide) ?_
        refine T_iadd dX9_odds_65 ?_
        obtain ⟨x_18, ex_19, h⟩ := lett_some h
        refine T_topI ex_19 ?_
        refine T_istore_n (i := 3) (L' := [aR (some 0), aI x1, aI x2, aI x_18, aI x4]) dX9_odds_66 rfl (Nat.le_of_ble_eq_true rfl) rfl ?_
        obtain ⟨x_20, ex_21, h⟩ := lett_some h
        refine T_iinc (L' := [aR (some 0), aI x1, aI x2, aI x_18, aI x_20]) dX9_odds_67 rfl (ic_inc ic_1 ex_21) (Nat.le_of_ble_eq_true rfl) rfl ?_
        refine T_goto (tgt := 25) dX9_odds_70 (by decide) ?_
        obtain rfl := sm1 h
        exact hI _ _ rfl
set_option maxRecDepth 100000 in
set_option maxHeartbeats 4000000 in
theorem l_X9_odds_L25 (M : Mem) (x1 : Int32) (x2 : Int32) {Po : Po_} (e3 : Int32) : ∀ (k : Nat) (x3 : Int32) (x4 : Int32), loop (X9_odds_L25 M x1 x2) k (x3, x4) = some e3 → (T RX9 cX9_odds 5 (some .int) 0 6 0 0 false Po 73 [aR (some 0), aU, aI x2, aI e3, aU] [] LAYM rfm M 0 0) → T RX9 cX9_odds 5 (some .int) 0 6 0 0 false Po 25 [aR (some 0), aI x1, aI x2, aI x3, aI x4] [] LAYM rfm M 0 0 := by
  intro k
  induction k with
  | zero => intro x3 x4 h; cases h
  | succ k ih =>
    intro x3 x4 h hE
    obtain ⟨x, hx, hx1, hx2⟩ := loop_succ h
    exact s_X9_odds_L25  M x1 x2  x3 x4 x hx (fun q0 q1 e => ih q0 q1 (hx1 _ e) hE) (fun q0 e => by cases hx2 _ e; exact hE)
set_option maxRecDepth 100000 in
set_option maxHeartbeats 4000000 in
theorem m_X9_odds (M : Mem) (x1 : Int32) (x2 : Int32) (r : Int32) (M' : Mem) (h : F_X9_odds M x1 x2 = some (r, M')) : Cal yX9_odds cX9_odds 5 (some .int) 0 6 0 0 false [vR (some 0), vI x1, vI x2] LAYM rfm M (eqp (vI r) LAYM rfm M') := by
  refine Cal.of (by decide +kernel) (Nat.le_of_ble_eq_true rfl) (fun h => by cases h) ?_
  unfold F_X9_odds at h
  show T RX9 cX9_odds 5 (some .int) 0 6 0 0 false (eqp (vI r) LAYM rfm M') 0 [aR (some 0), aI x1, aI x2, aU, aU] [] LAYM rfm M 0 0
  refine T_aload_n dX9_odds_0 rfl ?_
  refine T_iload_n dX9_odds_1 rfl ?_
  obtain ⟨r_1, M_2, hc_3, h⟩ := bd2_some h
  refine T_cvi (as := [vI x1]) dX9_odds_2 cw_X9_isHole ml_X9_246 mi_X9_isHole se_X9_isHole lyM_0 rfl (by decide) rfl (Nat.le_of_ble_eq_true rfl) (Nat.le_of_ble_eq_true rfl) (m_X9_isHole  M x1  _ _ hc_3) ?_
  refine T_if_eq (tgt := 18) dX9_odds_5 (by decide) (fun hc => ?_) (fun hc => ?_)
  · have h := it_pos hc h
    refine T_iconst dX9_odds_18 ic_m1 ?_
    obtain ⟨rfl, rfl⟩ := sm2 h
    exact T_iret dX9_odds_19 ⟨rfl, rfl, rfl, rfl⟩
  · have h := it_neg hc h
    refine T_iload_n dX9_odds_8 rfl ?_
    refine T_iconst dX9_odds_9 ic_0 ?_
    refine T_bipush dX9_odds_10 bp_12 ?_
    obtain ⟨r_4, hc_5, h⟩ := bd1_some h
    refine T_csi (as := [vI x2, vI 0, vI (nI 12)]) dX9_odds_12 cw_X9_in ml_X9_79 mt_X9_in rfl (Nat.le_of_ble_eq_true rfl) (Nat.le_of_ble_eq_true rfl) (m_X9_in M_2 x2 0 (nI 12)  _ hc_5) ?_
    refine T_if_ne (tgt := 20) dX9_odds_15 (by decide) (fun hc => ?_) (fun hc => ?_)
    · have h := it_neg hc h
      refine T_iconst dX9_odds_20 ic_0 ?_
      refine T_istore_n (i := 3) (L' := [aR (some 0), aI x1, aI x2, aI 0, aU]) dX9_odds_21 rfl (Nat.le_of_ble_eq_true rfl) rfl ?_
      refine T_iconst dX9_odds_22 ic_0 ?_
      refine T_istore (i := 4) (L' := [aR (some 0), aI x1, aI x2, aI 0, aI 0]) dX9_odds_23 (Nat.le_of_ble_eq_true rfl) rfl ?_
      obtain ⟨x_22, hl, h⟩ := bd1_some h
      refine l_X9_odds_L25  M_2 x1 x2  _ FU 0 0 hl ?_
      refine T_aload_n dX9_odds_73 rfl ?_
      refine T_bipush dX9_odds_74 bp_12 ?_
      refine T_iload_n dX9_odds_76 rfl ?_
      refine T_isub dX9_odds_77 ?_
      refine T_i2l dX9_odds_78 ?_
      refine T_ldc2 dX9_odds_79 kl_X9_265 ?_
      obtain ⟨r_23, M_24, hc_25, h⟩ := bd2_some h
      refine T_cvi (as := [vJ (((nI 12) - x2).toInt64), vJ 12]) dX9_odds_82 cw_X9_part ml_X9_308 mi_X9_part se_X9_part lyM_0 rfl (by decide) rfl (Nat.le_of_ble_eq_true rfl) (Nat.le_of_ble_eq_true rfl) (m_X9_part  M_2 (((nI 12) - x2).toInt64) 12  _ _ hc_25) ?_
      refine T_pop dX9_odds_85 rfl ?_
      refine T_aload_n dX9_odds_86 rfl ?_
      refine T_aload_n dX9_odds_87 rfl ?_
      refine T_getJ dX9_odds_88 clOK_X9 fl_X9_76 lyM_0 rfl ?_
      refine T_iload_n dX9_odds_91 rfl ?_
      obtain ⟨r_26, hc_27, h⟩ := bd1_some h
      refine T_csl (as := [vJ (gJ M_24 0 3), vI x_22]) dX9_odds_92 cw_X9_power ml_X9_329 mt_X9_power rfl (Nat.le_of_ble_eq_true rfl) (Nat.le_of_ble_eq_true rfl) (m_X9_power M_24 (gJ M_24 0 3) x_22  _ hc_27) ?_
      refine T_aload_n dX9_odds_95 rfl ?_
      refine T_getJ dX9_odds_96 clOK_X9 fl_X9_13 lyM_0 rfl ?_
      refine T_iload_n dX9_odds_99 rfl ?_
      obtain ⟨r_28, hc_29, h⟩ := bd1_some h
      refine T_csl (as := [vJ (gJ M_24 0 4), vI x_22]) dX9_odds_100 cw_X9_power ml_X9_329 mt_X9_power rfl (Nat.le_of_ble_eq_true rfl) (Nat.le_of_ble_eq_true rfl) (m_X9_power M_24 (gJ M_24 0 4) x_22  _ hc_29) ?_
      obtain ⟨r_30, M_31, hc_32, h⟩ := bd2_some h
      refine T_cvi (as := [vJ r_26, vJ r_28]) dX9_odds_103 cw_X9_part ml_X9_308 mi_X9_part se_X9_part lyM_0 rfl (by decide) rfl (Nat.le_of_ble_eq_true rfl) (Nat.le_of_ble_eq_true rfl) (m_X9_part  M_24 r_26 r_28  _ _ hc_32) ?_
      obtain ⟨rfl, rfl⟩ := sm2 h
      exact T_iret dX9_odds_106 ⟨rfl, rfl, rfl, rfl⟩
    · have h := it_pos hc h
      refine T_iconst dX9_odds_18 ic_m1 ?_
      obtain ⟨rfl, rfl⟩ := sm2 h
      exact T_iret dX9_odds_19 ⟨rfl, rfl, rfl, rfl⟩
