def X9_gone_L39 (x1 : Int32) (x2 : Int32) (x3 : Int32) : Int32 × Mem → Option ((Int32 × Mem) ⊕ (Mem))
  | (x5, M) =>
    if (nI 5) < x5 then some (.inr M)
    else chk (inb x1 16 = true) (if x5 = (gI M 7 x1.toNatClampNeg) then chk (inb x5 6 = true) (lett (sJ M 18 x5.toNatClampNeg 1) fun M_13 => lett (x5 + 1) fun x_16 => some (.inl (x_16, M_13)))
    else chk (inb x5 6 = true) (lett (sJ M 18 x5.toNatClampNeg 0) fun M_8 => lett (x5 + 1) fun x_11 => some (.inl (x_11, M_8))))
def X9_gone_L104 (x2 : Int32) (x3 : Int32) (x5 : Int32) : Int32 × Mem → Option ((Int32 × Mem) ⊕ (Mem))
  | (x6, M) =>
    if (nI 5) < x6 then some (.inr M)
    else chk (inb x6 6 = true) (if (nI 5) ≤ x6 then chk (inb x6 6 = true) (lett (sJ M 18 x6.toNatClampNeg (((12 - x3.toInt64) * (gJ M 18 x6.toNatClampNeg)) + 0)) fun M_22 => lett (x6 + 1) fun x_25 => some (.inl (x_25, M_22)))
    else chk (inb (x6 + 1) 6 = true) (chk (inb x6 6 = true) (lett (sJ M 18 x6.toNatClampNeg (((12 - x3.toInt64) * (gJ M 18 x6.toNatClampNeg)) + (x3.toInt64 * (gJ M 18 (x6 + 1).toNatClampNeg)))) fun M_28 => lett (x6 + 1) fun x_31 => some (.inl (x_31, M_28)))))
def X9_gone_L75 (x2 : Int32) (x3 : Int32) : Int32 × Mem → Option ((Int32 × Mem) ⊕ (Mem))
  | (x5, M) =>
    if x2 ≤ x5 then some (.inr M)
    else lett (sJ M 18 (0 : Int32).toNatClampNeg ((12 * (gJ M 18 (0 : Int32).toNatClampNeg)) + (x3.toInt64 * (gJ M 18 (1 : Int32).toNatClampNeg)))) fun M_19 => bd1 (loop (X9_gone_L104 x2 x3 x5) FU (1, M_19)) fun M_33 => lett (x5 + 1) fun x_34 => some (.inl (x_34, M_33))
def F_X9_gone (M : Mem) (x1 : Int32) (x2 : Int32) (x3 : Int32) : Option (Int32 × Mem) :=
 bd1 (F_X9_isCell M x1) fun r_1 => if r_1 = 0 then some ((-1), M)
 else bd1 (F_X9_in x2 0 (nI 8)) fun r_3 => if r_3 = 0 then some ((-1), M)
 else bd1 (F_X9_in x3 0 (nI 12)) fun r_5 => if r_5 = 0 then some ((-1), M)
 else bd1 (loop (X9_gone_L39 x1 x2 x3) FU (0, M)) fun M_18 => bd1 (loop (X9_gone_L75 x2 x3) FU (0, M_18)) fun M_36 => bd1 (F_X9_power 12 x2) fun r_37 => bd2 (F_X9_part M_36 (gJ M_36 18 (0 : Int32).toNatClampNeg) r_37) fun r_39 M_40 => some (r_39, M_40)
set_option maxRecDepth 100000 in
set_option maxHeartbeats 4000000 in
theorem s_X9_gone_L39 (x1 : Int32) (x2 : Int32) (x3 : Int32) (x5 : Int32) (M : Mem) {Po : Po_} (x : (Int32 × Mem) ⊕ (Mem)) (h : X9_gone_L39 x1 x2 x3 (x5, M) = some x) (hI : ∀ (ix5 : Int32) (iM : Mem), x = .inl (ix5, iM) → T RX9 cX9_gone 7 (some .int) 0 3 0 0 false Po 39 [aR (some 0), aI x1, aI x2, aI x3, aR (some 18), aI ix5, aU] [] LAYM rfm iM 0 0) (hE0 : ∀ (eM : Mem), x = .inr eM → T RX9 cX9_gone 7 (some .int) 0 3 0 0 false Po 72 [aR (some 0), aU, aI x2, aI x3, aR (some 18), aU, aU] [] LAYM rfm eM 0 0) : T RX9 cX9_gone 7 (some .int) 0 3 0 0 false Po 39 [aR (some 0), aI x1, aI x2, aI x3, aR (some 18), aI x5, aU] [] LAYM rfm M 0 0 := by
  unfold X9_gone_L39 at h
  simp only at h
  refine T_iload dX9_gone_39 rfl ?_
  refine T_iconst dX9_gone_41 ic_5 ?_
  refine T_icmp_gt (tgt := 72) dX9_gone_42 (by decide) (fun hc => ?_) (fun hc => ?_)
  · have h := it_pos hc h
    obtain rfl := sm1 h
    refine T_mask [true, false, true, true, true, false, true] rfl ?_
    exact hE0 _ rfl
  · have h := it_neg hc h
    refine T_aload dX9_gone_45 rfl ?_
    refine T_iload dX9_gone_47 rfl ?_
    refine T_iload dX9_gone_49 rfl ?_
    refine T_aload_n dX9_gone_51 rfl ?_
    refine T_getR dX9_gone_52 clOK_X9 fl_X9_32 lyM_0 rfl rfl ?_
    refine T_iload_n dX9_gone_55 rfl ?_
    obtain ⟨hi_7, h⟩ := chk_some h
    refine T_iald dX9_gone_56 lyM_7 (inb_in hi_7) ?_
    refine T_icmp_ne (tgt := 64) dX9_gone_57 (by decide) (fun hc => ?_) (fun hc => ?_)
    · have h := it_neg hc h
      refine T_lconst dX9_gone_64 lc_0 ?_
      obtain ⟨hi_10, h⟩ := chk_some h
      obtain ⟨M_8, eM_9, h⟩ := lett_some h
      refine T_last dX9_gone_65 lyM_18 (inb_in hi_10) eM_9 ?_
      obtain ⟨x_11, ex_12, h⟩ := lett_some h
      refine T_iinc (L' := [aR (some 0), aI x1, aI x2, aI x3, aR (some 18), aI x_11, aU]) dX9_gone_66 rfl (ic_inc ic_1 ex_12) (Nat.le_of_ble_eq_true rfl) rfl ?_
      refine T_goto (tgt := 39) dX9_gone_69 (by decide) ?_
      obtain rfl := sm1 h
      exact hI _ _ rfl
    · have h := it_pos hc h
      refine T_lconst dX9_gone_60 lc_1 ?_
      refine T_goto (tgt := 65) dX9_gone_61 (by decide) ?_
      obtain ⟨hi_15, h⟩ := chk_some h
      obtain ⟨M_13, eM_14, h⟩ := lett_some h
      refine T_last dX9_gone_65 lyM_18 (inb_in hi_15) eM_14 ?_
      obtain ⟨x_16, ex_17, h⟩ := lett_some h
      refine T_iinc (L' := [aR (some 0), aI x1, aI x2, aI x3, aR (some 18), aI x_16, aU]) dX9_gone_66 rfl (ic_inc ic_1 ex_17) (Nat.le_of_ble_eq_true rfl) rfl ?_
      refine T_goto (tgt := 39) dX9_gone_69 (by decide) ?_
      obtain rfl := sm1 h
      exact hI _ _ rfl
set_option maxRecDepth 100000 in
set_option maxHeartbeats 4000000 in
theorem l_X9_gone_L39 (x1 : Int32) (x2 : Int32) (x3 : Int32) {Po : Po_} (eM : Mem) : ∀ (k : Nat) (x5 : Int32) (M : Mem), loop (X9_gone_L39 x1 x2 x3) k (x5, M) = some eM → (T RX9 cX9_gone 7 (some .int) 0 3 0 0 false Po 72 [aR (some 0), aU, aI x2, aI x3, aR (some 18), aU, aU] [] LAYM rfm eM 0 0) → T RX9 cX9_gone 7 (some .int) 0 3 0 0 false Po 39 [aR (some 0), aI x1, aI x2, aI x3, aR (some 18), aI x5, aU] [] LAYM rfm M 0 0 := by
  intro k
  induction k with
  | zero => intro x5 M h; cases h
  | succ k ih =>
    intro x5 M h hE
    obtain ⟨x, hx, hx1, hx2⟩ := loop_succ h
    exact s_X9_gone_L39  x1 x2 x3  x5 M x hx (fun q0 q1 e => ih q0 q1 (hx1 _ e) hE) (fun q0 e => by cases hx2 _ e; exact hE)
set_option maxRecDepth 100000 in
set_option maxHeartbeats 4000000 in
theorem s_X9_gone_L104 (x2 : Int32) (x3 : Int32) (x5 : Int32) (x6 : Int32) (M : Mem) {Po : Po_} (x : (Int32 × Mem) ⊕ (Mem)) (h : X9_gone_L104 x2 x3 x5 (x6, M) = some x) (hI : ∀ (ix6 : Int32) (iM : Mem), x = .inl (ix6, iM) → T RX9 cX9_gone 7 (some .int) 0 3 0 0 false Po 104 [aR (some 0), aU, aI x2, aI x3, aR (some 18), aI x5, aI ix6] [] LAYM rfm iM 0 0) (hE0 : ∀ (eM : Mem), x = .inr eM → T RX9 cX9_gone 7 (some .int) 0 3 0 0 false Po 154 [aR (some 0), aU, aI x2, aI x3, aR (some 18), aI x5, aU] [] LAYM rfm eM 0 0) : T RX9 cX9_gone 7 (some .int) 0 3 0 0 false Po 104 [aR (some 0), aU, aI x2, aI x3, aR (some 18), aI x5, aI x6] [] LAYM rfm M 0 0 := by
  unfold X9_gone_L104 at h
  simp only at h
  refine T_iload dX9_gone_104 rfl ?_
  refine T_iconst dX9_gone_106 ic_5 ?_
  refine T_icmp_gt (tgt := 154) dX9_gone_107 (by decide) (fun hc => ?_) (fun hc => ?_)
  · have h := it_pos hc h
    obtain rfl := sm1 h
    refine T_mask [true, true, true, true, true, true, false] rfl ?_
    exact hE0 _ rfl
  · have h := it_neg hc h
    refine T_aload dX9_gone_110 rfl ?_
    refine T_iload dX9_gone_112 rfl ?_
    refine T_ldc2 dX9_gone_114 kl_X9_265 ?_
    refine T_iload_n dX9_gone_117 rfl ?_
    refine T_i2l dX9_gone_118 ?_
    refine T_lsub dX9_gone_119 ?_
    refine T_aload dX9_gone_120 rfl ?_
    refine T_iload dX9_gone_122 rfl ?_
    obtain ⟨hi_21, h⟩ := chk_some h
    refine T_lald dX9_gone_124 lyM_18 (inb_in hi_21) ?_
    refine T_lmul dX9_gone_125 ?_
    refine T_iload dX9_gone_126 rfl ?_
    refine T_iconst dX9_gone_128 ic_5 ?_
    refine T_icmp_ge (tgt := 145) dX9_gone_129 (by decide) (fun hc => ?_) (fun hc => ?_)
    · have h := it_pos hc h
      refine T_lconst dX9_gone_145 lc_0 ?_
      refine T_ladd dX9_gone_146 ?_
      obtain ⟨hi_24, h⟩ := chk_some h
      obtain ⟨M_22, eM_23, h⟩ := lett_some h
      refine T_last dX9_gone_147 lyM_18 (inb_in hi_24) eM_23 ?_
      obtain ⟨x_25, ex_26, h⟩ := lett_some h
      refine T_iinc (L' := [aR (some 0), aU, aI x2, aI x3, aR (some 18), aI x5, aI x_25]) dX9_gone_148 rfl (ic_inc ic_1 ex_26) (Nat.le_of_ble_eq_true rfl) rfl ?_
      refine T_goto (tgt := 104) dX9_gone_151 (by decide) ?_
      obtain rfl := sm1 h
      exact hI _ _ rfl
    · have h := it_neg hc h
      refine T_iload_n dX9_gone_132 rfl ?_
      refine T_i2l dX9_gone_133 ?_
      refine T_aload dX9_gone_134 rfl ?_
      refine T_iload dX9_gone_136 rfl ?_
      refine T_iconst dX9_gone_138 ic_1 ?_
      refine T_iadd dX9_gone_139 ?_
      obtain ⟨hi_27, h⟩ := chk_some h
      refine T_lald dX9_gone_140 lyM_18 (inb_in hi_27) ?_
      refine T_lmul dX9_gone_141 ?_
      refine T_goto (tgt := 146) dX9_gone_142 (by decide) ?_
      refine T_ladd dX9_gone_146 ?_
      obtain ⟨hi_30, h⟩ := chk_some h
      obtain ⟨M_28, eM_29, h⟩ := lett_some h
      refine T_last dX9_gone_147 lyM_18 (inb_in hi_30) eM_29 ?_
      obtain ⟨x_31, ex_32, h⟩ := lett_some h
      refine T_iinc (L' := [aR (some 0), aU, aI x2, aI x3, aR (some 18), aI x5, aI x_31]) dX9_gone_148 rfl (ic_inc ic_1 ex_32) (Nat.le_of_ble_eq_true rfl) rfl ?_
      refine T_goto (tgt := 104) dX9_gone_151 (by decide) ?_
      obtain rfl := sm1 h
      exact hI _ _ rfl
set_option maxRecDepth 100000 in
set_option maxHeartbeats 4000000 in
theorem l_X9_gone_L104 (x2 : Int32) (x3 : Int32) (x5 : Int32) {Po : Po_} (eM : Mem) : ∀ (k : Nat) (x6 : Int32) (M : Mem), loop (X9_gone_L104 x2 x3 x5) k (x6, M) = some eM → (T RX9 cX9_gone 7 (some .int) 0 3 0 0 false Po 154 [aR (some 0), aU, aI x2, aI x3, aR (some 18), aI x5, aU] [] LAYM rfm eM 0 0) → T RX9 cX9_gone 7 (some .int) 0 3 0 0 false Po 104 [aR (some 0), aU, aI x2, aI x3, aR (some 18), aI x5, aI x6] [] LAYM rfm M 0 0 := by
  intro k
  induction k with
  | zero => intro x6 M h; cases h
  | succ k ih =>
    intro x6 M h hE
    obtain ⟨x, hx, hx1, hx2⟩ := loop_succ h
    exact s_X9_gone_L104  x2 x3 x5  x6 M x hx (fun q0 q1 e => ih q0 q1 (hx1 _ e) hE) (fun q0 e => by cases hx2 _ e; exact hE)
set_option maxRecDepth 100000 in
set_option maxHeartbeats 4000000 in
theorem s_X9_gone_L75 (x2 : Int32) (x3 : Int32) (x5 : Int32) (M : Mem) {Po : Po_} (x : (Int32 × Mem) ⊕ (Mem)) (h : X9_gone_L75 x2 x3 (x5, M) = some x) (hI : ∀ (ix5 : Int32) (iM : Mem), x = .inl (ix5, iM) → T RX9 cX9_gone 7 (some .int) 0 3 0 0 false Po 75 [aR (some 0), aU, aI x2, aI x3, aR (some 18), aI ix5, aU] [] LAYM rfm iM 0 0) (hE0 : ∀ (eM : Mem), x = .inr eM → T RX9 cX9_gone 7 (some .int) 0 3 0 0 false Po 160 [aR (some 0), aU, aI x2, aU, aR (some 18), aU, aU] [] LAYM rfm eM 0 0) : T RX9 cX9_gone 7 (some .int) 0 3 0 0 false Po 75 [aR (some 0), aU, aI x2, aI x3, aR (some 18), aI x5, aU] [] LAYM rfm M 0 0 := by
  unfold X9_gone_L75 at h
  simp only at h
  refine T_iload dX9_gone_75 rfl ?_
  refine T_iload_n dX9_gone_77 rfl ?_
  refine T_icmp_ge (tgt := 160) dX9_gone_78 (by decide) (fun hc => ?_) (fun hc => ?_)
  · have h := it_pos hc h
    obtain rfl := sm1 h
    refine T_mask [true, true, true, false, true, false, true] rfl ?_
    exact hE0 _ rfl
  · have h := it_neg hc h
    refine T_aload dX9_gone_81 rfl ?_
    refine T_iconst dX9_gone_83 ic_0 ?_
    refine T_ldc2 dX9_gone_84 kl_X9_265 ?_
    refine T_aload dX9_gone_87 rfl ?_
    refine T_iconst dX9_gone_89 ic_0 ?_
    refine T_lald dX9_gone_90 lyM_18 (inb_in (by decide)) ?_
    refine T_lmul dX9_gone_91 ?_
    refine T_iload_n dX9_gone_92 rfl ?_
    refine T_i2l dX9_gone_93 ?_
    refine T_aload dX9_gone_94 rfl ?_
    refine T_iconst dX9_gone_96 ic_1 ?_
    refine T_lald dX9_gone_97 lyM_18 (inb_in (by decide)) ?_
    refine T_lmul dX9_gone_98 ?_
    refine T_ladd dX9_gone_99 ?_
    obtain ⟨M_19, eM_20, h⟩ := lett_some h
    refine T_last dX9_gone_100 lyM_18 (inb_in (by decide)) eM_20 ?_
    refine T_iconst dX9_gone_101 ic_1 ?_
    refine T_istore (i := 6) (L' := [aR (some 0), aU, aI x2, aI x3, aR (some 18), aI x5, aI 1]) dX9_gone_102 (Nat.le_of_ble_eq_true rfl) rfl ?_
    obtain ⟨M_33, hl, h⟩ := bd1_some h
    refine l_X9_gone_L104  x2 x3 x5  _ FU 1 M_19 hl ?_
    obtain ⟨x_34, ex_35, h⟩ := lett_some h
    refine T_iinc (L' := [aR (some 0), aU, aI x2, aI x3, aR (some 18), aI x_34, aU]) dX9_gone_154 rfl (ic_inc ic_1 ex_35) (Nat.le_of_ble_eq_true rfl) rfl ?_
    refine T_goto (tgt := 75) dX9_gone_157 (by decide) ?_
    obtain rfl := sm1 h
    exact hI _ _ rfl
set_option maxRecDepth 100000 in
set_option maxHeartbeats 4000000 in
theorem l_X9_gone_L75 (x2 : Int32) (x3 : Int32) {Po : Po_} (eM : Mem) : ∀ (k : Nat) (x5 : Int32) (M : Mem), loop (X9_gone_L75 x2 x3) k (x5, M) = some eM → (T RX9 cX9_gone 7 (some .int) 0 3 0 0 false Po 160 [aR (some 0), aU, aI x2, aU, aR (some 18), aU, aU] [] LAYM rfm eM 0 0) → T RX9 cX9_gone 7 (some .int) 0 3 0 0 false Po 75 [aR (some 0), aU, aI x2, aI x3, aR (some 18), aI x5, aU] [] LAYM rfm M 0 0 := by
  intro k
  induction k with
  | zero => intro x5 M h; cases h
  | succ k ih =>
    intro x5 M h hE
    obtain ⟨x, hx, hx1, hx2⟩ := loop_succ h
    exact s_X9_gone_L75  x2 x3  x5 M x hx (fun q0 q1 e => ih q0 q1 (hx1 _ e) hE) (fun q0 e => by cases hx2 _ e; exact hE)
set_option maxRecDepth 100000 in
set_option maxHeartbeats 4000000 in
theorem m_X9_gone (M : Mem) (x1 : Int32) (x2 : Int32) (x3 : Int32) (r : Int32) (M' : Mem) (h : F_X9_gone M x1 x2 x3 = some (r, M')) : Cal yX9_gone cX9_gone 7 (some .int) 0 3 0 0 false [vR (some 0), vI x1, vI x2, vI x3] LAYM rfm M (eqp (vI r) LAYM rfm M') := by
  refine Cal.of (by decide +kernel) (Nat.le_of_ble_eq_true rfl) (fun h => by cases h) ?_
  unfold F_X9_gone at h
  show T RX9 cX9_gone 7 (some .int) 0 3 0 0 false (eqp (vI r) LAYM rfm M') 0 [aR (some 0), aI x1, aI x2, aI x3, aU, aU, aU] [] LAYM rfm M 0 0
  refine T_aload_n dX9_gone_0 rfl ?_
  refine T_iload_n dX9_gone_1 rfl ?_
  obtain ⟨r_1, hc_2, h⟩ := bd1_some h
  refine T_cvi (as := [vI x1]) dX9_gone_2 cw_X9_isCell ml_X9_212 mi_X9_isCell se_X9_isCell lyM_0 rfl (by decide) rfl (Nat.le_of_ble_eq_true rfl) (Nat.le_of_ble_eq_true rfl) (m_X9_isCell  M x1  _ hc_2) ?_
  refine T_if_eq (tgt := 28) dX9_gone_5 (by decide) (fun hc => ?_) (fun hc => ?_)
  · have h := it_pos hc h
    refine T_iconst dX9_gone_28 ic_m1 ?_
    obtain ⟨rfl, rfl⟩ := sm2 h
    exact T_iret dX9_gone_29 ⟨rfl, rfl, rfl, rfl⟩
  · have h := it_neg hc h
    refine T_iload_n dX9_gone_8 rfl ?_
    refine T_iconst dX9_gone_9 ic_0 ?_
    refine T_bipush dX9_gone_10 bp_8 ?_
    obtain ⟨r_3, hc_4, h⟩ := bd1_some h
    refine T_csi (as := [vI x2, vI 0, vI (nI 8)]) dX9_gone_12 cw_X9_in ml_X9_79 mt_X9_in rfl (Nat.le_of_ble_eq_true rfl) (Nat.le_of_ble_eq_true rfl) (m_X9_in M x2 0 (nI 8)  _ hc_4) ?_
    refine T_if_eq (tgt := 28) dX9_gone_15 (by decide) (fun hc => ?_) (fun hc => ?_)
    · have h := it_pos hc h
      refine T_iconst dX9_gone_28 ic_m1 ?_
      obtain ⟨rfl, rfl⟩ := sm2 h
      exact T_iret dX9_gone_29 ⟨rfl, rfl, rfl, rfl⟩
    · have h := it_neg hc h
      refine T_iload_n dX9_gone_18 rfl ?_
      refine T_iconst dX9_gone_19 ic_0 ?_
      refine T_bipush dX9_gone_20 bp_12 ?_
      obtain ⟨r_5, hc_6, h⟩ := bd1_some h
      refine T_csi (as := [vI x3, vI 0, vI (nI 12)]) dX9_gone_22 cw_X9_in ml_X9_79 mt_X9_in rfl (Nat.le_of_ble_eq_true rfl) (Nat.le_of_ble_eq_true rfl) (m_X9_in M x3 0 (nI 12)  _ hc_6) ?_
      refine T_if_ne (tgt := 30) dX9_gone_25 (by decide) (fun hc => ?_) (fun hc => ?_)
      · have h := it_neg hc h
        refine T_aload_n dX9_gone_30 rfl ?_
        refine T_getR dX9_gone_31 clOK_X9 fl_X9_65 lyM_0 rfl rfl ?_
        refine T_astore (i := 4) (L' := [aR (some 0), aI x1, aI x2, aI x3, aR (some 18), aU, aU]) dX9_gone_34 (Nat.le_of_ble_eq_true rfl) rfl ?_
        refine T_iconst dX9_gone_36 ic_0 ?_
        refine T_istore (i := 5) (L' := [aR (some 0), aI x1, aI x2, aI x3, aR (some 18), aI 0, aU]) dX9_gone_37 (Nat.le_of_ble_eq_true rfl) rfl ?_
        obtain ⟨M_18, hl, h⟩ := bd1_some h
        refine l_X9_gone_L39  x1 x2 x3  _ FU 0 M hl ?_
        refine T_iconst dX9_gone_72 ic_0 ?_
        refine T_istore (i := 5) (L' := [aR (some 0), aU, aI x2, aI x3, aR (some 18), aI 0, aU]) dX9_gone_73 (Nat.le_of_ble_eq_true rfl) rfl ?_
        obtain ⟨M_36, hl, h⟩ := bd1_some h
        refine l_X9_gone_L75  x2 x3  _ FU 0 M_18 hl ?_
        refine T_aload_n dX9_gone_160 rfl ?_
        refine T_aload dX9_gone_161 rfl ?_
        refine T_iconst dX9_gone_163 ic_0 ?_
        refine T_lald dX9_gone_164 lyM_18 (inb_in (by decide)) ?_
        refine T_ldc2 dX9_gone_165 kl_X9_265 ?_
        refine T_iload_n dX9_gone_168 rfl ?_
        obtain ⟨r_37, hc_38, h⟩ := bd1_some h
        refine T_csl (as := [vJ 12, vI x2]) dX9_gone_169 cw_X9_power ml_X9_329 mt_X9_power rfl (Nat.le_of_ble_eq_true rfl) (Nat.le_of_ble_eq_true rfl) (m_X9_power M_36 12 x2  _ hc_38) ?_
        obtain ⟨r_39, M_40, hc_41, h⟩ := bd2_some h
        refine T_cvi (as := [vJ (gJ M_36 18 (0 : Int32).toNatClampNeg), vJ r_37]) dX9_gone_172 cw_X9_part ml_X9_308 mi_X9_part se_X9_part lyM_0 rfl (by decide) rfl (Nat.le_of_ble_eq_true rfl) (Nat.le_of_ble_eq_true rfl) (m_X9_part  M_36 (gJ M_36 18 (0 : Int32).toNatClampNeg) r_37  _ _ hc_41) ?_
        obtain ⟨rfl, rfl⟩ := sm2 h
        exact T_iret dX9_gone_175 ⟨rfl, rfl, rfl, rfl⟩
      · have h := it_pos hc h
        refine T_iconst dX9_gone_28 ic_m1 ?_
        obtain ⟨rfl, rfl⟩ := sm2 h
        exact T_iret dX9_gone_29 ⟨rfl, rfl, rfl, rfl⟩
def F_X9_asked (M : Mem) : Option (Int32) :=
 some (gI M 0 2)
set_option maxRecDepth 100000 in
set_option maxHeartbeats 4000000 in
theorem m_X9_asked (M : Mem) (r : Int32) (h : F_X9_asked M = some r) : Cal yX9_asked cX9_asked 1 (some .int) 0 1 0 0 false [vR (some 0)] LAYM rfm M (eqp (vI r) LAYM rfm M) := by
  refine Cal.of (by decide +kernel) (Nat.le_of_ble_eq_true rfl) (fun h => by cases h) ?_
  unfold F_X9_asked at h
  show T RX9 cX9_asked 1 (some .int) 0 1 0 0 false (eqp (vI r) LAYM rfm M) 0 [aR (some 0)] [] LAYM rfm M 0 0
  refine T_aload_n dX9_asked_0 rfl ?_
  refine T_getI dX9_asked_1 clOK_X9 fl_X9_73 lyM_0 rfl ?_
  obtain rfl := sm1 h
  exact T_iret dX9_asked_4 ⟨rfl, rfl, rfl, rfl⟩
def F_X9_upper (M : Mem) : Option (Int64) :=
 some (gJ M 0 3)
set_option maxRecDepth 100000 in
set_option maxHeartbeats 4000000 in
theorem m_X9_upper (M : Mem) (r : Int64) (h : F_X9_upper M = some r) : Cal yX9_upper cX9_upper 1 (some .long) 1 1 0 0 false [vR (some 0)] LAYM rfm M (eqp (vJ r) LAYM rfm M) := by
  refine Cal.of (by decide +kernel) (Nat.le_of_ble_eq_true rfl) (fun h => by cases h) ?_
  unfold F_X9_upper at h
  show T RX9 cX9_upper 1 (some .long) 1 1 0 0 false (eqp (vJ r) LAYM rfm M) 0 [aR (some 0)] [] LAYM rfm M 0 0
  refine T_aload_n dX9_upper_0 rfl ?_
  refine T_getJ dX9_upper_1 clOK_X9 fl_X9_76 lyM_0 rfl ?_
  obtain rfl := sm1 h
  exact T_lret dX9_upper_4 ⟨rfl, rfl, rfl, rfl⟩
def F_X9_lower (M : Mem) : Option (Int64) :=
 some (gJ M 0 4)
set_option maxRecDepth 100000 in
set_option maxHeartbeats 4000000 in
theorem m_X9_lower (M : Mem) (r : Int64) (h : F_X9_lower M = some r) : Cal yX9_lower cX9_lower 1 (some .long) 1 1 0 0 false [vR (some 0)] LAYM rfm M (eqp (vJ r) LAYM rfm M) := by
  refine Cal.of (by decide +kernel) (Nat.le_of_ble_eq_true rfl) (fun h => by cases h) ?_
  unfold F_X9_lower at h
  show T RX9 cX9_lower 1 (some .long) 1 1 0 0 false (eqp (vJ r) LAYM rfm M) 0 [aR (some 0)] [] LAYM rfm M 0 0
  refine T_aload_n dX9_lower_0 rfl ?_
  refine T_getJ dX9_lower_1 clOK_X9 fl_X9_13 lyM_0 rfl ?_
  obtain rfl := sm1 h
  exact T_lret dX9_lower_4 ⟨rfl, rfl, rfl, rfl⟩
def X9_tells_J69 (M : Mem) (x1 : Int32) (x3 : Int32) (s0 : Int32) : Option ((Int32 × Int32) ⊕ (Int32)) :=
 if x1 = (nI 9) then if (nI 3) ≤ x3 then lett (s0 + 0) fun x_5 => lett (x3 + 1) fun x_7 => some (.inl (x_5, x_7))
 else chk (inb x3 3 = true) (if (gI M 14 x3.toNatClampNeg) = 1 then lett (s0 + 1) fun x_14 => lett (x3 + 1) fun x_16 => some (.inl (x_14, x_16))
 else lett (s0 + 0) fun x_10 => lett (x3 + 1) fun x_12 => some (.inl (x_10, x_12)))
 else lett (s0 + 0) fun x_1 => lett (x3 + 1) fun x_3 => some (.inl (x_1, x_3))
def X9_tells_J49 (M : Mem) (x1 : Int32) (x3 : Int32) (s0 : Int32) : Option ((Int32 × Int32) ⊕ (Int32)) :=
 if x1 = (nI 8) then if (nI 4) ≤ x3 then X9_tells_J69 M x1 x3 s0
 else chk (inb x3 4 = true) (if 0 ≤ (gI M 5 x3.toNatClampNeg) then lett (s0 + 1) fun x_19 => lett (x3 + 1) fun x_21 => some (.inl (x_19, x_21))
 else X9_tells_J69 M x1 x3 s0)
 else X9_tells_J69 M x1 x3 s0
def X9_tells_J34 (M : Mem) (x1 : Int32) (x3 : Int32) (s0 : Int32) : Option ((Int32 × Int32) ⊕ (Int32)) :=
 if x1 = (nI 7) then chk (inb x3 6 = true) (if 0 ≤ (gI M 2 x3.toNatClampNeg) then lett (s0 + 1) fun x_24 => lett (x3 + 1) fun x_26 => some (.inl (x_24, x_26))
 else X9_tells_J49 M x1 x3 s0)
 else X9_tells_J49 M x1 x3 s0
def X9_tells_L4 (M : Mem) (x1 : Int32) : Int32 × Int32 → Option ((Int32 × Int32) ⊕ (Int32))
  | (x2, x3) =>
    if (nI 6) ≤ x3 then some (.inr x2)
    else if x1 = (nI 6) then if (gI M 0 12) ≤ x3 then X9_tells_J34 M x1 x3 x2
    else bd1 (F_X9_isA M x3 1) fun r_28 => if r_28 = 0 then X9_tells_J34 M x1 x3 x2
    else lett (x2 + 1) fun x_30 => lett (x3 + 1) fun x_32 => some (.inl (x_30, x_32))
    else X9_tells_J34 M x1 x3 x2
def F_X9_tells (M : Mem) (x1 : Int32) : Option (Int32 × Mem) :=
 bd1 (loop (X9_tells_L4 M x1) FU (0, 0)) fun x_34 => if x1 = 0 then some (gI M 0 11, M)
 else if x1 = 1 then some (gI M 0 10, M)
 else if x1 = (nI 2) then bd2 (F_X9_holeCount M) fun r_35 M_36 => some (r_35, M_36)
 else if x1 = (nI 3) then some (gI M 0 16, M)
 else if x1 = (nI 4) then some (gI M 0 26, M)
 else if x1 = (nI 5) then some (gI M 0 12, M)
 else some (x_34, M)
set_option maxRecDepth 100000 in
set_option maxHeartbeats 4000000 in
theorem j_X9_tells_J69 (M : Mem) (x1 : Int32) (x3 : Int32) (s0 : Int32) {Po : Po_} (x : (Int32 × Int32) ⊕ (Int32)) (h : X9_tells_J69 M x1 x3 s0 = some x) (hI : ∀ (ix2 : Int32) (ix3 : Int32), x = .inl (ix2, ix3) → T RX9 cX9_tells 4 (some .int) 0 6 0 0 false Po 4 [aR (some 0), aI x1, aI ix2, aI ix3] [] LAYM rfm M 0 0) (hE0 : ∀ (e2 : Int32), x = .inr e2 → T RX9 cX9_tells 4 (some .int) 0 6 0 0 false Po 103 [aR (some 0), aI x1, aI e2, aU] [] LAYM rfm M 0 0) : T RX9 cX9_tells 4 (some .int) 0 6 0 0 false Po 69 [aR (some 0), aI x1, aU, aI x3] [vI s0] LAYM rfm M 0 0 := by
  unfold X9_tells_J69 at h
  refine T_iload_n dX9_tells_69 rfl ?_
  refine T_bipush dX9_tells_70 bp_9 ?_
  refine T_icmp_ne (tgt := 94) dX9_tells_72 (by decide) (fun hc => ?_) (fun hc => ?_)
  · have h := it_neg hc h
    refine T_iconst dX9_tells_94 ic_0 ?_
    refine T_iadd dX9_tells_95 ?_
    obtain ⟨x_1, ex_2, h⟩ := lett_some h
    refine T_topI ex_2 ?_
    refine T_istore_n (i := 2) (L' := [aR (some 0), aI x1, aI x_1, aI x3]) dX9_tells_96 rfl (Nat.le_of_ble_eq_true rfl) rfl ?_
    obtain ⟨x_3, ex_4, h⟩ := lett_some h
    refine T_iinc (L' := [aR (some 0), aI x1, aI x_1, aI x_3]) dX9_tells_97 rfl (ic_inc ic_1 ex_4) (Nat.le_of_ble_eq_true rfl) rfl ?_
    refine T_goto (tgt := 4) dX9_tells_100 (by decide) ?_
    obtain rfl := sm1 h
    exact hI _ _ rfl
  · have h := it_pos hc h
    refine T_iload_n dX9_tells_75 rfl ?_
    refine T_iconst dX9_tells_76 ic_3 ?_
    refine T_icmp_ge (tgt := 94) dX9_tells_77 (by decide) (fun hc => ?_) (fun hc => ?_)
    · have h := it_pos hc h
      refine T_iconst dX9_tells_94 ic_0 ?_
      refine T_iadd dX9_tells_95 ?_
      obtain ⟨x_5, ex_6, h⟩ := lett_some h
      refine T_topI ex_6 ?_
      refine T_istore_n (i := 2) (L' := [aR (some 0), aI x1, aI x_5, aI x3]) dX9_tells_96 rfl (Nat.le_of_ble_eq_true rfl) rfl ?_
      obtain ⟨x_7, ex_8, h⟩ := lett_some h
      refine T_iinc (L' := [aR (some 0), aI x1, aI x_5, aI x_7]) dX9_tells_97 rfl (ic_inc ic_1 ex_8) (Nat.le_of_ble_eq_true rfl) rfl ?_
      refine T_goto (tgt := 4) dX9_tells_100 (by decide) ?_
      obtain rfl := sm1 h
      exact hI _ _ rfl
    · have h := it_neg hc h
      refine T_aload_n dX9_tells_80 rfl ?_
      refine T_getR dX9_tells_81 clOK_X9 fl_X9_53 lyM_0 rfl rfl ?_
      refine T_iload_n dX9_tells_84 rfl ?_
      obtain ⟨hi_9, h⟩ := chk_some h
      refine T_iald dX9_tells_85 lyM_14 (inb_in hi_9) ?_
      refine T_iconst dX9_tells_86 ic_1 ?_
      refine T_icmp_ne (tgt := 94) dX9_tells_87 (by decide) (fun hc => ?_) (fun hc => ?_)
      · have h := it_neg hc h
        refine T_iconst dX9_tells_94 ic_0 ?_
        refine T_iadd dX9_tells_95 ?_
        obtain ⟨x_10, ex_11, h⟩ := lett_some h
        refine T_topI ex_11 ?_
        refine T_istore_n (i := 2) (L' := [aR (some 0), aI x1, aI x_10, aI x3]) dX9_tells_96 rfl (Nat.le_of_ble_eq_true rfl) rfl ?_
        obtain ⟨x_12, ex_13, h⟩ := lett_some h
        refine T_iinc (L' := [aR (some 0), aI x1, aI x_10, aI x_12]) dX9_tells_97 rfl (ic_inc ic_1 ex_13) (Nat.le_of_ble_eq_true rfl) rfl ?_
        refine T_goto (tgt := 4) dX9_tells_100 (by decide) ?_
        obtain rfl := sm1 h
        exact hI _ _ rfl
      · have h := it_pos hc h
        refine T_iconst dX9_tells_90 ic_1 ?_
        refine T_goto (tgt := 95) dX9_tells_91 (by decide) ?_
        refine T_iadd dX9_tells_95 ?_
        obtain ⟨x_14, ex_15, h⟩ := lett_some h
        refine T_topI ex_15 ?_
        refine T_istore_n (i := 2) (L' := [aR (some 0), aI x1, aI x_14, aI x3]) dX9_tells_96 rfl (Nat.le_of_ble_eq_true rfl) rfl ?_
        obtain ⟨x_16, ex_17, h⟩ := lett_some h
        refine T_iinc (L' := [aR (some 0), aI x1, aI x_14, aI x_16]) dX9_tells_97 rfl (ic_inc ic_1 ex_17) (Nat.le_of_ble_eq_true rfl) rfl ?_
        refine T_goto (tgt := 4) dX9_tells_100 (by decide) ?_
        obtain rfl := sm1 h
        exact hI _ _ rfl
set_option maxRecDepth 100000 in
set_option maxHeartbeats 4000000 in
theorem j_X9_tells_J49 (M : Mem) (x1 : Int32) (x3 : Int32) (s0 : Int32) {Po : Po_} (x : (Int32 × Int32) ⊕ (Int32)) (h : X9_tells_J49 M x1 x3 s0 = some x) (hI : ∀ (ix2 : Int32) (ix3 : Int32), x = .inl (ix2, ix3) → T RX9 cX9_tells 4 (some .int) 0 6 0 0 false Po 4 [aR (some 0), aI x1, aI ix2, aI ix3] [] LAYM rfm M 0 0) (hE0 : ∀ (e2 : Int32), x = .inr e2 → T RX9 cX9_tells 4 (some .int) 0 6 0 0 false Po 103 [aR (some 0), aI x1, aI e2, aU] [] LAYM rfm M 0 0) : T RX9 cX9_tells 4 (some .int) 0 6 0 0 false Po 49 [aR (some 0), aI x1, aU, aI x3] [vI s0] LAYM rfm M 0 0 := by
  unfold X9_tells_J49 at h
  refine T_iload_n dX9_tells_49 rfl ?_
  refine T_bipush dX9_tells_50 bp_8 ?_
  refine T_icmp_ne (tgt := 69) dX9_tells_52 (by decide) (fun hc => ?_) (fun hc => ?_)
  · have h := it_neg hc h
    exact j_X9_tells_J69  M x1 x3 s0  _ h hI hE0
  · have h := it_pos hc h
    refine T_iload_n dX9_tells_55 rfl ?_
    refine T_iconst dX9_tells_56 ic_4 ?_
    refine T_icmp_ge (tgt := 69) dX9_tells_57 (by decide) (fun hc => ?_) (fun hc => ?_)
    · have h := it_pos hc h
      exact j_X9_tells_J69  M x1 x3 s0  _ h hI hE0
    · have h := it_neg hc h
      refine T_aload_n dX9_tells_60 rfl ?_
      refine T_getR dX9_tells_61 clOK_X9 fl_X9_26 lyM_0 rfl rfl ?_
      refine T_iload_n dX9_tells_64 rfl ?_
      obtain ⟨hi_18, h⟩ := chk_some h
      refine T_iald dX9_tells_65 lyM_5 (inb_in hi_18) ?_
      refine T_if_ge (tgt := 90) dX9_tells_66 (by decide) (fun hc => ?_) (fun hc => ?_)
      · have h := it_pos hc h
        refine T_iconst dX9_tells_90 ic_1 ?_
        refine T_goto (tgt := 95) dX9_tells_91 (by decide) ?_
        refine T_iadd dX9_tells_95 ?_
        obtain ⟨x_19, ex_20, h⟩ := lett_some h
        refine T_topI ex_20 ?_
        refine T_istore_n (i := 2) (L' := [aR (some 0), aI x1, aI x_19, aI x3]) dX9_tells_96 rfl (Nat.le_of_ble_eq_true rfl) rfl ?_
        obtain ⟨x_21, ex_22, h⟩ := lett_some h
        refine T_iinc (L' := [aR (some 0), aI x1, aI x_19, aI x_21]) dX9_tells_97 rfl (ic_inc ic_1 ex_22) (Nat.le_of_ble_eq_true rfl) rfl ?_
        refine T_goto (tgt := 4) dX9_tells_100 (by decide) ?_
        obtain rfl := sm1 h
        exact hI _ _ rfl
      · have h := it_neg hc h
        exact j_X9_tells_J69  M x1 x3 s0  _ h hI hE0
set_option maxRecDepth 100000 in
set_option maxHeartbeats 4000000 in
theorem j_X9_tells_J34 (M : Mem) (x1 : Int32) (x3 : Int32) (s0 : Int32) {Po : Po_} (x : (Int32 × Int32) ⊕ (Int32)) (h : X9_tells_J34 M x1 x3 s0 = some x) (hI : ∀ (ix2 : Int32) (ix3 : Int32), x = .inl (ix2, ix3) → T RX9 cX9_tells 4 (some .int) 0 6 0 0 false Po 4 [aR (some 0), aI x1, aI ix2, aI ix3] [] LAYM rfm M 0 0) (hE0 : ∀ (e2 : Int32), x = .inr e2 → T RX9 cX9_tells 4 (some .int) 0 6 0 0 false Po 103 [aR (some 0), aI x1, aI e2, aU] [] LAYM rfm M 0 0) : T RX9 cX9_tells 4 (some .int) 0 6 0 0 false Po 34 [aR (some 0), aI x1, aU, aI x3] [vI s0] LAYM rfm M 0 0 := by
  unfold X9_tells_J34 at h
  refine T_iload_n dX9_tells_34 rfl ?_
  refine T_bipush dX9_tells_35 bp_7 ?_
  refine T_icmp_ne (tgt := 49) dX9_tells_37 (by decide) (fun hc => ?_) (fun hc => ?_)
  · have h := it_neg hc h
    exact j_X9_tells_J49  M x1 x3 s0  _ h hI hE0
  · have h := it_pos hc h
    refine T_aload_n dX9_tells_40 rfl ?_
    refine T_getR dX9_tells_41 clOK_X9 fl_X9_17 lyM_0 rfl rfl ?_
    refine T_iload_n dX9_tells_44 rfl ?_
    obtain ⟨hi_23, h⟩ := chk_some h
    refine T_iald dX9_tells_45 lyM_2 (inb_in hi_23) ?_
    refine T_if_ge (tgt := 90) dX9_tells_46 (by decide) (fun hc => ?_) (fun hc => ?_)
    · have h := it_pos hc h
      refine T_iconst dX9_tells_90 ic_1 ?_
      refine T_goto (tgt := 95) dX9_tells_91 (by decide) ?_
      refine T_iadd dX9_tells_95 ?_
      obtain ⟨x_24, ex_25, h⟩ := lett_some h
      refine T_topI ex_25 ?_
      refine T_istore_n (i := 2) (L' := [aR (some 0), aI x1, aI x_24, aI x3]) dX9_tells_96 rfl (Nat.le_of_ble_eq_true rfl) rfl ?_
      obtain ⟨x_26, ex_27, h⟩ := lett_some h
      refine T_iinc (L' := [aR (some 0), aI x1, aI x_24, aI x_26]) dX9_tells_97 rfl (ic_inc ic_1 ex_27) (Nat.le_of_ble_eq_true rfl) rfl ?_
      refine T_goto (tgt := 4) dX9_tells_100 (by decide) ?_
      obtain rfl := sm1 h
      exact hI _ _ rfl
    · have h := it_neg hc h
      exact j_X9_tells_J49  M x1 x3 s0  _ h hI hE0
set_option maxRecDepth 100000 in
set_option maxHeartbeats 4000000 in
theorem s_X9_tells_L4 (M : Mem) (x1 : Int32) (x2 : Int32) (x3 : Int32) {Po : Po_} (x : (Int32 × Int32) ⊕ (Int32)) (h : X9_tells_L4 M x1 (x2, x3) = some x) (hI : ∀ (ix2 : Int32) (ix3 : Int32), x = .inl (ix2, ix3) → T RX9 cX9_tells 4 (some .int) 0 6 0 0 false Po 4 [aR (some 0), aI x1, aI ix2, aI ix3] [] LAYM rfm M 0 0) (hE0 : ∀ (e2 : Int32), x = .inr e2 → T RX9 cX9_tells 4 (some .int) 0 6 0 0 false Po 103 [aR (some 0), aI x1, aI e2, aU] [] LAYM rfm M 0 0) : T RX9 cX9_tells 4 (some .int) 0 6 0 0 false Po 4 [aR (some 0), aI x1, aI x2, aI x3] [] LAYM rfm M 0 0 := by
  unfold X9_tells_L4 at h
  simp only at h
  refine T_iload_n dX9_tells_4 rfl ?_
  refine T_bipush dX9_tells_5 bp_6 ?_
  refine T_icmp_ge (tgt := 103) dX9_tells_7 (by decide) (fun hc => ?_) (fun hc => ?_)
  · have h := it_pos hc h
    obtain rfl := sm1 h
    refine T_mask [true, true, true, false] rfl ?_
    exact hE0 _ rfl
  · have h := it_neg hc h
    refine T_iload_n dX9_tells_10 rfl ?_
    refine T_iload_n dX9_tells_11 rfl ?_
    refine T_bipush dX9_tells_12 bp_6 ?_
    refine T_icmp_ne (tgt := 34) dX9_tells_14 (by decide) (fun hc => ?_) (fun hc => ?_)
    · have h := it_neg hc h
      refine T_mask [true, true, false, true] rfl ?_
      exact j_X9_tells_J34  M x1 x3 x2  _ h hI hE0
    · have h := it_pos hc h
      refine T_iload_n dX9_tells_17 rfl ?_
      refine T_aload_n dX9_tells_18 rfl ?_
      refine T_getI dX9_tells_19 clOK_X9 fl_X9_161 lyM_0 rfl ?_
      refine T_icmp_ge (tgt := 34) dX9_tells_22 (by decide) (fun hc => ?_) (fun hc => ?_)
      · have h := it_pos hc h
        refine T_mask [true, true, false, true] rfl ?_
        exact j_X9_tells_J34  M x1 x3 x2  _ h hI hE0
      · have h := it_neg hc h
        refine T_aload_n dX9_tells_25 rfl ?_
        refine T_iload_n dX9_tells_26 rfl ?_
        refine T_iconst dX9_tells_27 ic_1 ?_
        obtain ⟨r_28, hc_29, h⟩ := bd1_some h
        refine T_cvi (as := [vI x3, vI 1]) dX9_tells_28 cw_X9_isA ml_X9_240 mi_X9_isA se_X9_isA lyM_0 rfl (by decide) rfl (Nat.le_of_ble_eq_true rfl) (Nat.le_of_ble_eq_true rfl) (m_X9_isA  M x3 1  _ hc_29) ?_
        refine T_if_ne (tgt := 90) dX9_tells_31 (by decide) (fun hc => ?_) (fun hc => ?_)
        · have h := it_neg hc h
          refine T_iconst dX9_tells_90 ic_1 ?_
          refine T_goto (tgt := 95) dX9_tells_91 (by decide) ?_
          refine T_iadd dX9_tells_95 ?_
          obtain ⟨x_30, ex_31, h⟩ := lett_some h
          refine T_topI ex_31 ?_
          refine T_istore_n (i := 2) (L' := [aR (some 0), aI x1, aI x_30, aI x3]) dX9_tells_96 rfl (Nat.le_of_ble_eq_true rfl) rfl ?_
          obtain ⟨x_32, ex_33, h⟩ := lett_some h
          refine T_iinc (L' := [aR (some 0), aI x1, aI x_30, aI x_32]) dX9_tells_97 rfl (ic_inc ic_1 ex_33) (Nat.le_of_ble_eq_true rfl) rfl ?_
          refine T_goto (tgt := 4) dX9_tells_100 (by decide) ?_
          obtain rfl := sm1 h
          exact hI _ _ rfl
        · have h := it_pos hc h
          refine T_mask [true, true, false, true] rfl ?_
          exact j_X9_tells_J34  M x1 x3 x2  _ h hI hE0
set_option maxRecDepth 100000 in
set_option maxHeartbeats 4000000 in
theorem l_X9_tells_L4 (M : Mem) (x1 : Int32) {Po : Po_} (e2 : Int32) : ∀ (k : Nat) (x2 : Int32) (x3 : Int32), loop (X9_tells_L4 M x1) k (x2, x3) = some e2 → (T RX9 cX9_tells 4 (some .int) 0 6 0 0 false Po 103 [aR (some 0), aI x1, aI e2, aU] [] LAYM rfm M 0 0) → T RX9 cX9_tells 4 (some .int) 0 6 0 0 false Po 4 [aR (some 0), aI x1, aI x2, aI x3] [] LAYM rfm M 0 0 := by
  intro k
  induction k with
  | zero => intro x2 x3 h; cases h
  | succ k ih =>
    intro x2 x3 h hE
    obtain ⟨x, hx, hx1, hx2⟩ := loop_succ h
    exact s_X9_tells_L4  M x1  x2 x3 x hx (fun q0 q1 e => ih q0 q1 (hx1 _ e) hE) (fun q0 e => by cases hx2 _ e; exact hE)
set_option maxRecDepth 100000 in
set_option maxHeartbeats 4000000 in
theorem m_X9_tells (M : Mem) (x1 : Int32) (r : Int32) (M' : Mem) (h : F_X9_tells M x1 = some (r, M')) : Cal yX9_tells cX9_tells 4 (some .int) 0 6 0 0 false [vR (some 0), vI x1] LAYM rfm M (eqp (vI r) LAYM rfm M') := by
  refine Cal.of (by decide +kernel) (Nat.le_of_ble_eq_true rfl) (fun h => by cases h) ?_
  unfold F_X9_tells at h
  show T RX9 cX9_tells 4 (some .int) 0 6 0 0 false (eqp (vI r) LAYM rfm M') 0 [aR (some 0), aI x1, aU, aU] [] LAYM rfm M 0 0
  refine T_iconst dX9_tells_0 ic_0 ?_
  refine T_istore_n (i := 2) (L' := [aR (some 0), aI x1, aI 0, aU]) dX9_tells_1 rfl (Nat.le_of_ble_eq_true rfl) rfl ?_
  refine T_iconst dX9_tells_2 ic_0 ?_
  refine T_istore_n (i := 3) (L' := [aR (some 0), aI x1, aI 0, aI 0]) dX9_tells_3 rfl (Nat.le_of_ble_eq_true rfl) rfl ?_
  obtain ⟨x_34, hl, h⟩ := bd1_some h
  refine l_X9_tells_L4  M x1  _ FU 0 0 hl ?_
  refine T_iload_n dX9_tells_103 rfl ?_
  by_cases hs0 : x1 = 0
  · have h := it_pos hs0 h
    refine T_eqI hs0 ?_
    refine T_tabIn (off := 40) (tgt := 144) dX9_tells_104 (by decide) (by decide) (by decide) (by decide) ?_
    refine T_aload_n dX9_tells_144 rfl ?_
    refine T_getI dX9_tells_145 clOK_X9 fl_X9_155 lyM_0 rfl ?_
    obtain ⟨rfl, rfl⟩ := sm2 h
    exact T_iret dX9_tells_148 ⟨rfl, rfl, rfl, rfl⟩
  · have h := it_neg hs0 h
    by_cases hs1 : x1 = 1
    · have h := it_pos hs1 h
      refine T_eqI hs1 ?_
      refine T_tabIn (off := 45) (tgt := 149) dX9_tells_104 (by decide) (by decide) (by decide) (by decide) ?_
      refine T_aload_n dX9_tells_149 rfl ?_
      refine T_getI dX9_tells_150 clOK_X9 fl_X9_158 lyM_0 rfl ?_
      obtain ⟨rfl, rfl⟩ := sm2 h
      exact T_iret dX9_tells_153 ⟨rfl, rfl, rfl, rfl⟩
    · have h := it_neg hs1 h
      by_cases hs2 : x1 = (nI 2)
      · have h := it_pos hs2 h
        refine T_eqI hs2 ?_
        refine T_tabIn (off := 50) (tgt := 154) dX9_tells_104 (by decide) (by decide) (by decide) (by decide) ?_
        refine T_aload_n dX9_tells_154 rfl ?_
        obtain ⟨r_35, M_36, hc_37, h⟩ := bd2_some h
        refine T_cvi (as := []) dX9_tells_155 cw_X9_holeCount ml_X9_267 mi_X9_holeCount se_X9_holeCount lyM_0 rfl (by decide) rfl (Nat.le_of_ble_eq_true rfl) (Nat.le_of_ble_eq_true rfl) (m_X9_holeCount  M  _ _ hc_37) ?_
        obtain ⟨rfl, rfl⟩ := sm2 h
        exact T_iret dX9_tells_158 ⟨rfl, rfl, rfl, rfl⟩
      · have h := it_neg hs2 h
        by_cases hs3 : x1 = (nI 3)
        · have h := it_pos hs3 h
          refine T_eqI hs3 ?_
          refine T_tabIn (off := 55) (tgt := 159) dX9_tells_104 (by decide) (by decide) (by decide) (by decide) ?_
          refine T_aload_n dX9_tells_159 rfl ?_
          refine T_getI dX9_tells_160 clOK_X9 fl_X9_164 lyM_0 rfl ?_
          obtain ⟨rfl, rfl⟩ := sm2 h
          exact T_iret dX9_tells_163 ⟨rfl, rfl, rfl, rfl⟩
        · have h := it_neg hs3 h
          by_cases hs4 : x1 = (nI 4)
          · have h := it_pos hs4 h
            refine T_eqI hs4 ?_
            refine T_tabIn (off := 60) (tgt := 164) dX9_tells_104 (by decide) (by decide) (by decide) (by decide) ?_
            refine T_aload_n dX9_tells_164 rfl ?_
            refine T_getI dX9_tells_165 clOK_X9 fl_X9_167 lyM_0 rfl ?_
            obtain ⟨rfl, rfl⟩ := sm2 h
            exact T_iret dX9_tells_168 ⟨rfl, rfl, rfl, rfl⟩
          · have h := it_neg hs4 h
            by_cases hs5 : x1 = (nI 5)
            · have h := it_pos hs5 h
              refine T_eqI hs5 ?_
              refine T_tabIn (off := 65) (tgt := 169) dX9_tells_104 (by decide) (by decide) (by decide) (by decide) ?_
              refine T_aload_n dX9_tells_169 rfl ?_
              refine T_getI dX9_tells_170 clOK_X9 fl_X9_161 lyM_0 rfl ?_
              obtain ⟨rfl, rfl⟩ := sm2 h
              exact T_iret dX9_tells_173 ⟨rfl, rfl, rfl, rfl⟩
            · have h := it_neg hs5 h
              refine T_tabOut (tgt := 174) dX9_tells_104 (sw_out (fun k a b => by rcases (show k = 0 ∨ k = 1 ∨ k = 2 ∨ k = 3 ∨ k = 4 ∨ k = 5 by omega) with rfl | rfl | rfl | rfl | rfl | rfl <;> first | exact fun e => hs0 (e.trans (by decide)) | exact fun e => hs1 (e.trans (by decide)) | exact fun e => hs2 (e.trans (by decide)) | exact fun e => hs3 (e.trans (by decide)) | exact fun e => hs4 (e.trans (by decide)) | exact fun e => hs5 (e.trans (by decide)))) (by decide) ?_
              refine T_iload_n dX9_tells_174 rfl ?_
              obtain ⟨rfl, rfl⟩ := sm2 h
              exact T_iret dX9_tells_175 ⟨rfl, rfl, rfl, rfl⟩
def F_X9_count (M : Mem) (x1 : Int32) : Option (Int32 × Mem) :=
 bd1 (F_X9_in x1 0 (nI 9)) fun r_1 => if r_1 = 0 then some ((-1), M)
 else bd2 (F_X9_tells M x1) fun r_3 M_4 => some (r_3, M_4)
set_option maxRecDepth 100000 in
set_option maxHeartbeats 4000000 in
theorem m_X9_count (M : Mem) (x1 : Int32) (r : Int32) (M' : Mem) (h : F_X9_count M x1 = some (r, M')) : Cal yX9_count cX9_count 2 (some .int) 0 7 0 0 false [vR (some 0), vI x1] LAYM rfm M (eqp (vI r) LAYM rfm M') := by
  refine Cal.of (by decide +kernel) (Nat.le_of_ble_eq_true rfl) (fun h => by cases h) ?_
  unfold F_X9_count at h
  show T RX9 cX9_count 2 (some .int) 0 7 0 0 false (eqp (vI r) LAYM rfm M') 0 [aR (some 0), aI x1] [] LAYM rfm M 0 0
  refine T_iload_n dX9_count_0 rfl ?_
  refine T_iconst dX9_count_1 ic_0 ?_
  refine T_bipush dX9_count_2 bp_9 ?_
  obtain ⟨r_1, hc_2, h⟩ := bd1_some h
  refine T_csi (as := [vI x1, vI 0, vI (nI 9)]) dX9_count_4 cw_X9_in ml_X9_79 mt_X9_in rfl (Nat.le_of_ble_eq_true rfl) (Nat.le_of_ble_eq_true rfl) (m_X9_in M x1 0 (nI 9)  _ hc_2) ?_
  refine T_if_eq (tgt := 18) dX9_count_7 (by decide) (fun hc => ?_) (fun hc => ?_)
  · have h := it_pos hc h
    refine T_iconst dX9_count_18 ic_m1 ?_
    obtain ⟨rfl, rfl⟩ := sm2 h
    exact T_iret dX9_count_19 ⟨rfl, rfl, rfl, rfl⟩
  · have h := it_neg hc h
    refine T_aload_n dX9_count_10 rfl ?_
    refine T_iload_n dX9_count_11 rfl ?_
    obtain ⟨r_3, M_4, hc_5, h⟩ := bd2_some h
    refine T_cvi (as := [vI x1]) dX9_count_12 cw_X9_tells ml_X9_333 mi_X9_tells se_X9_tells lyM_0 rfl (by decide) rfl (Nat.le_of_ble_eq_true rfl) (Nat.le_of_ble_eq_true rfl) (m_X9_tells  M x1  _ _ hc_5) ?_
    refine T_goto (tgt := 19) dX9_count_15 (by decide) ?_
    obtain ⟨rfl, rfl⟩ := sm2 h
    exact T_iret dX9_count_19 ⟨rfl, rfl, rfl, rfl⟩
def F_X9_finding (M : Mem) : Option (Int32) :=
 some (gI M 0 0)
set_option maxRecDepth 100000 in
set_option maxHeartbeats 4000000 in
theorem m_X9_finding (M : Mem) (r : Int32) (h : F_X9_finding M = some r) : Cal yX9_finding cX9_finding 1 (some .int) 0 1 0 0 false [vR (some 0)] LAYM rfm M (eqp (vI r) LAYM rfm M) := by
  refine Cal.of (by decide +kernel) (Nat.le_of_ble_eq_true rfl) (fun h => by cases h) ?_
  unfold F_X9_finding at h
  show T RX9 cX9_finding 1 (some .int) 0 1 0 0 false (eqp (vI r) LAYM rfm M) 0 [aR (some 0)] [] LAYM rfm M 0 0
  refine T_aload_n dX9_finding_0 rfl ?_
  refine T_getI dX9_finding_1 clOK_X9 fl_X9_69 lyM_0 rfl ?_
  obtain rfl := sm1 h
  exact T_iret dX9_finding_4 ⟨rfl, rfl, rfl, rfl⟩
def F_X9_findings (M : Mem) (x1 : Int32) : Option (Int32) :=
 bd1 (F_X9_in x1 1 (nI 5)) fun r_1 => if r_1 = 0 then some (-1)
 else chk (inb x1 6 = true) (some (gI M 1 x1.toNatClampNeg))
set_option maxRecDepth 100000 in
set_option maxHeartbeats 4000000 in
theorem m_X9_findings (M : Mem) (x1 : Int32) (r : Int32) (h : F_X9_findings M x1 = some r) : Cal yX9_findings cX9_findings 2 (some .int) 0 2 0 0 false [vR (some 0), vI x1] LAYM rfm M (eqp (vI r) LAYM rfm M) := by
  refine Cal.of (by decide +kernel) (Nat.le_of_ble_eq_true rfl) (fun h => by cases h) ?_
  unfold F_X9_findings at h
  show T RX9 cX9_findings 2 (some .int) 0 2 0 0 false (eqp (vI r) LAYM rfm M) 0 [aR (some 0), aI x1] [] LAYM rfm M 0 0
  refine T_iload_n dX9_findings_0 rfl ?_
  refine T_iconst dX9_findings_1 ic_1 ?_
  refine T_iconst dX9_findings_2 ic_5 ?_
  obtain ⟨r_1, hc_2, h⟩ := bd1_some h
  refine T_csi (as := [vI x1, vI 1, vI (nI 5)]) dX9_findings_3 cw_X9_in ml_X9_79 mt_X9_in rfl (Nat.le_of_ble_eq_true rfl) (Nat.le_of_ble_eq_true rfl) (m_X9_in M x1 1 (nI 5)  _ hc_2) ?_
  refine T_if_eq (tgt := 18) dX9_findings_6 (by decide) (fun hc => ?_) (fun hc => ?_)
  · have h := it_pos hc h
    refine T_iconst dX9_findings_18 ic_m1 ?_
    obtain rfl := sm1 h
    exact T_iret dX9_findings_19 ⟨rfl, rfl, rfl, rfl⟩
  · have h := it_neg hc h
    refine T_aload_n dX9_findings_9 rfl ?_
    refine T_getR dX9_findings_10 clOK_X9 fl_X9_7 lyM_0 rfl rfl ?_
    refine T_iload_n dX9_findings_13 rfl ?_
    obtain ⟨hi_3, h⟩ := chk_some h
    refine T_iald dX9_findings_14 lyM_1 (inb_in hi_3) ?_
    refine T_goto (tgt := 19) dX9_findings_15 (by decide) ?_
    obtain rfl := sm1 h
    exact T_iret dX9_findings_19 ⟨rfl, rfl, rfl, rfl⟩
def F_X9_mix (M : Mem) (x1 : Int32) : Option (Mem) :=
 lett (sJ M 0 33 ((31 * (gJ M 0 33)) + x1.toInt64)) fun M_1 => some M_1
set_option maxRecDepth 100000 in
set_option maxHeartbeats 4000000 in
theorem m_X9_mix (M : Mem) (x1 : Int32) (M' : Mem) (h : F_X9_mix M x1 = some M') : Cal yX9_mix cX9_mix 2 none 2 1 0 0 false [vR (some 0), vI x1] LAYM rfm M (eqp (vI 0) LAYM rfm M') := by
  refine Cal.of (by decide +kernel) (Nat.le_of_ble_eq_true rfl) (fun h => by cases h) ?_
  unfold F_X9_mix at h
  show T RX9 cX9_mix 2 none 2 1 0 0 false (eqp (vI 0) LAYM rfm M') 0 [aR (some 0), aI x1] [] LAYM rfm M 0 0
  refine T_aload_n dX9_mix_0 rfl ?_
  refine T_ldc2 dX9_mix_1 kl_X9_336 ?_
  refine T_aload_n dX9_mix_4 rfl ?_
  refine T_getJ dX9_mix_5 clOK_X9 fl_X9_338 lyM_0 rfl ?_
  refine T_lmul dX9_mix_8 ?_
  refine T_iload_n dX9_mix_9 rfl ?_
  refine T_i2l dX9_mix_10 ?_
  refine T_ladd dX9_mix_11 ?_
  obtain ⟨M_1, eM_2, h⟩ := lett_some h
  refine T_putJ dX9_mix_12 clOK_X9 fl_X9_338 (Or.inl rfl) lyM_0 rfl rfl eM_2 ?_
  obtain rfl := sm1 h
  exact T_vret dX9_mix_15 ⟨rfl, rfl, rfl, rfl⟩
