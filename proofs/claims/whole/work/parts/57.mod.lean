def X9_mixGround_L12 (x1 : Int32) : Int32 × Mem → Option ((Int32 × Mem) ⊕ (Mem))
  | (x2, M) =>
    if (nI 2) < x2 then some (.inr M)
    else bd2 (F_X9_cellOf M x1 x2) fun r_1 M_2 => bd1 (F_X9_mix M_2 r_1) fun M_4 => lett (x2 + 1) fun x_6 => some (.inl (x_6, M_4))
def X9_mixGround_L2 : Int32 × Mem → Option ((Int32 × Mem) ⊕ (Mem))
  | (x1, M) =>
    if (gI M 0 11) ≤ x1 then some (.inr M)
    else bd1 (loop (X9_mixGround_L12 x1) FU (0, M)) fun M_8 => lett (x1 + 1) fun x_9 => some (.inl (x_9, M_8))
def X9_mixGround_L41 : Int32 × Mem → Option ((Int32 × Mem) ⊕ (Mem))
  | (x1, M) =>
    if (gI M 0 12) ≤ x1 then some (.inr M)
    else chk (inb x1 6 = true) (bd1 (F_X9_mix M (gI M 9 x1.toNatClampNeg)) fun M_13 => lett (x1 + 1) fun x_15 => some (.inl (x_15, M_13)))
def X9_mixGround_L74 (x1 : Int32) : Int32 × Mem → Option ((Int32 × Mem) ⊕ (Mem))
  | (x2, M) =>
    if (gI M 0 11) ≤ x2 then some (.inr M)
    else chk (inb x1 3 = true) (if (gI M 14 x1.toNatClampNeg) = 1 then chk (inb (((nI 17) * x1) + x2) 51 = true) (bd1 (F_X9_mix M (gI M 15 (((nI 17) * x1) + x2).toNatClampNeg)) fun M_20 => lett (x2 + 1) fun x_22 => some (.inl (x_22, M_20)))
    else some (.inr M))
def X9_mixGround_J140 (M : Mem) (x1 : Int32) (s0 : Int32) : Option ((Int32 × Mem) ⊕ (Mem)) :=
 bd1 (F_X9_mix M s0) fun M_26 => lett (x1 + 1) fun x_28 => some (.inl (x_28, M_26))
def X9_mixGround_L67 : Int32 × Mem → Option ((Int32 × Mem) ⊕ (Mem))
  | (x1, M) =>
    if (nI 3) ≤ x1 then some (.inr M)
    else bd1 (loop (X9_mixGround_L74 x1) FU (0, M)) fun M_24 => chk (inb x1 3 = true) (if (gI M_24 14 x1.toNatClampNeg) = 1 then chk (inb (((nI 17) * x1) + (nI 16)) 51 = true) (X9_mixGround_J140 M_24 x1 (gI M_24 15 (((nI 17) * x1) + (nI 16)).toNatClampNeg))
    else X9_mixGround_J140 M_24 x1 (-1))
def F_X9_mixGround (M : Mem) : Option (Mem) :=
 bd1 (loop (X9_mixGround_L2 ) FU (0, M)) fun M_11 => bd1 (loop (X9_mixGround_L41 ) FU (0, M_11)) fun M_17 => loop (X9_mixGround_L67 ) FU (0, M_17)
set_option maxRecDepth 100000 in
set_option maxHeartbeats 4000000 in
theorem s_X9_mixGround_L12 (x1 : Int32) (x2 : Int32) (M : Mem) {Po : Po_} (x : (Int32 × Mem) ⊕ (Mem)) (h : X9_mixGround_L12 x1 (x2, M) = some x) (hI : ∀ (ix2 : Int32) (iM : Mem), x = .inl (ix2, iM) → T RX9 cX9_mixGround 3 none 2 6 0 0 false Po 12 [aR (some 0), aI x1, aI ix2] [] LAYM rfm iM 0 0) (hE0 : ∀ (eM : Mem), x = .inr eM → T RX9 cX9_mixGround 3 none 2 6 0 0 false Po 33 [aR (some 0), aI x1, aU] [] LAYM rfm eM 0 0) : T RX9 cX9_mixGround 3 none 2 6 0 0 false Po 12 [aR (some 0), aI x1, aI x2] [] LAYM rfm M 0 0 := by
  unfold X9_mixGround_L12 at h
  simp only at h
  refine T_iload_n dX9_mixGround_12 rfl ?_
  refine T_iconst dX9_mixGround_13 ic_2 ?_
  refine T_icmp_gt (tgt := 33) dX9_mixGround_14 (by decide) (fun hc => ?_) (fun hc => ?_)
  · have h := it_pos hc h
    obtain rfl := sm1 h
    refine T_mask [true, true, false] rfl ?_
    exact hE0 _ rfl
  · have h := it_neg hc h
    refine T_aload_n dX9_mixGround_17 rfl ?_
    refine T_aload_n dX9_mixGround_18 rfl ?_
    refine T_iload_n dX9_mixGround_19 rfl ?_
    refine T_iload_n dX9_mixGround_20 rfl ?_
    obtain ⟨r_1, M_2, hc_3, h⟩ := bd2_some h
    refine T_cvi (as := [vI x1, vI x2]) dX9_mixGround_21 cw_X9_cellOf ml_X9_215 mi_X9_cellOf se_X9_cellOf lyM_0 rfl (by decide) rfl (Nat.le_of_ble_eq_true rfl) (Nat.le_of_ble_eq_true rfl) (m_X9_cellOf  M x1 x2  _ _ hc_3) ?_
    obtain ⟨M_4, hc_5, h⟩ := bd1_some h
    refine T_cvv (as := [vI r_1]) dX9_mixGround_24 cw_X9_mix ml_X9_341 mi_X9_mix se_X9_mix lyM_0 rfl (by decide) rfl (Nat.le_of_ble_eq_true rfl) (Nat.le_of_ble_eq_true rfl) (m_X9_mix  M_2 r_1  _ hc_5) ?_
    obtain ⟨x_6, ex_7, h⟩ := lett_some h
    refine T_iinc (L' := [aR (some 0), aI x1, aI x_6]) dX9_mixGround_27 rfl (ic_inc ic_1 ex_7) (Nat.le_of_ble_eq_true rfl) rfl ?_
    refine T_goto (tgt := 12) dX9_mixGround_30 (by decide) ?_
    obtain rfl := sm1 h
    exact hI _ _ rfl
set_option maxRecDepth 100000 in
set_option maxHeartbeats 4000000 in
theorem l_X9_mixGround_L12 (x1 : Int32) {Po : Po_} (eM : Mem) : ∀ (k : Nat) (x2 : Int32) (M : Mem), loop (X9_mixGround_L12 x1) k (x2, M) = some eM → (T RX9 cX9_mixGround 3 none 2 6 0 0 false Po 33 [aR (some 0), aI x1, aU] [] LAYM rfm eM 0 0) → T RX9 cX9_mixGround 3 none 2 6 0 0 false Po 12 [aR (some 0), aI x1, aI x2] [] LAYM rfm M 0 0 := by
  intro k
  induction k with
  | zero => intro x2 M h; cases h
  | succ k ih =>
    intro x2 M h hE
    obtain ⟨x, hx, hx1, hx2⟩ := loop_succ h
    exact s_X9_mixGround_L12  x1  x2 M x hx (fun q0 q1 e => ih q0 q1 (hx1 _ e) hE) (fun q0 e => by cases hx2 _ e; exact hE)
set_option maxRecDepth 100000 in
set_option maxHeartbeats 4000000 in
theorem s_X9_mixGround_L2 (x1 : Int32) (M : Mem) {Po : Po_} (x : (Int32 × Mem) ⊕ (Mem)) (h : X9_mixGround_L2  (x1, M) = some x) (hI : ∀ (ix1 : Int32) (iM : Mem), x = .inl (ix1, iM) → T RX9 cX9_mixGround 3 none 2 6 0 0 false Po 2 [aR (some 0), aI ix1, aU] [] LAYM rfm iM 0 0) (hE0 : ∀ (eM : Mem), x = .inr eM → T RX9 cX9_mixGround 3 none 2 6 0 0 false Po 39 [aR (some 0), aU, aU] [] LAYM rfm eM 0 0) : T RX9 cX9_mixGround 3 none 2 6 0 0 false Po 2 [aR (some 0), aI x1, aU] [] LAYM rfm M 0 0 := by
  unfold X9_mixGround_L2 at h
  simp only at h
  refine T_iload_n dX9_mixGround_2 rfl ?_
  refine T_aload_n dX9_mixGround_3 rfl ?_
  refine T_getI dX9_mixGround_4 clOK_X9 fl_X9_155 lyM_0 rfl ?_
  refine T_icmp_ge (tgt := 39) dX9_mixGround_7 (by decide) (fun hc => ?_) (fun hc => ?_)
  · have h := it_pos hc h
    obtain rfl := sm1 h
    refine T_mask [true, false, true] rfl ?_
    exact hE0 _ rfl
  · have h := it_neg hc h
    refine T_iconst dX9_mixGround_10 ic_0 ?_
    refine T_istore_n (i := 2) (L' := [aR (some 0), aI x1, aI 0]) dX9_mixGround_11 rfl (Nat.le_of_ble_eq_true rfl) rfl ?_
    obtain ⟨M_8, hl, h⟩ := bd1_some h
    refine l_X9_mixGround_L12  x1  _ FU 0 M hl ?_
    obtain ⟨x_9, ex_10, h⟩ := lett_some h
    refine T_iinc (L' := [aR (some 0), aI x_9, aU]) dX9_mixGround_33 rfl (ic_inc ic_1 ex_10) (Nat.le_of_ble_eq_true rfl) rfl ?_
    refine T_goto (tgt := 2) dX9_mixGround_36 (by decide) ?_
    obtain rfl := sm1 h
    exact hI _ _ rfl
set_option maxRecDepth 100000 in
set_option maxHeartbeats 4000000 in
theorem l_X9_mixGround_L2 {Po : Po_} (eM : Mem) : ∀ (k : Nat) (x1 : Int32) (M : Mem), loop (X9_mixGround_L2 ) k (x1, M) = some eM → (T RX9 cX9_mixGround 3 none 2 6 0 0 false Po 39 [aR (some 0), aU, aU] [] LAYM rfm eM 0 0) → T RX9 cX9_mixGround 3 none 2 6 0 0 false Po 2 [aR (some 0), aI x1, aU] [] LAYM rfm M 0 0 := by
  intro k
  induction k with
  | zero => intro x1 M h; cases h
  | succ k ih =>
    intro x1 M h hE
    obtain ⟨x, hx, hx1, hx2⟩ := loop_succ h
    exact s_X9_mixGround_L2    x1 M x hx (fun q0 q1 e => ih q0 q1 (hx1 _ e) hE) (fun q0 e => by cases hx2 _ e; exact hE)
set_option maxRecDepth 100000 in
set_option maxHeartbeats 4000000 in
theorem s_X9_mixGround_L41 (x1 : Int32) (M : Mem) {Po : Po_} (x : (Int32 × Mem) ⊕ (Mem)) (h : X9_mixGround_L41  (x1, M) = some x) (hI : ∀ (ix1 : Int32) (iM : Mem), x = .inl (ix1, iM) → T RX9 cX9_mixGround 3 none 2 6 0 0 false Po 41 [aR (some 0), aI ix1, aU] [] LAYM rfm iM 0 0) (hE0 : ∀ (eM : Mem), x = .inr eM → T RX9 cX9_mixGround 3 none 2 6 0 0 false Po 65 [aR (some 0), aU, aU] [] LAYM rfm eM 0 0) : T RX9 cX9_mixGround 3 none 2 6 0 0 false Po 41 [aR (some 0), aI x1, aU] [] LAYM rfm M 0 0 := by
  unfold X9_mixGround_L41 at h
  simp only at h
  refine T_iload_n dX9_mixGround_41 rfl ?_
  refine T_aload_n dX9_mixGround_42 rfl ?_
  refine T_getI dX9_mixGround_43 clOK_X9 fl_X9_161 lyM_0 rfl ?_
  refine T_icmp_ge (tgt := 65) dX9_mixGround_46 (by decide) (fun hc => ?_) (fun hc => ?_)
  · have h := it_pos hc h
    obtain rfl := sm1 h
    refine T_mask [true, false, true] rfl ?_
    exact hE0 _ rfl
  · have h := it_neg hc h
    refine T_aload_n dX9_mixGround_49 rfl ?_
    refine T_aload_n dX9_mixGround_50 rfl ?_
    refine T_getR dX9_mixGround_51 clOK_X9 fl_X9_38 lyM_0 rfl rfl ?_
    refine T_iload_n dX9_mixGround_54 rfl ?_
    obtain ⟨hi_12, h⟩ := chk_some h
    refine T_iald dX9_mixGround_55 lyM_9 (inb_in hi_12) ?_
    obtain ⟨M_13, hc_14, h⟩ := bd1_some h
    refine T_cvv (as := [vI (gI M 9 x1.toNatClampNeg)]) dX9_mixGround_56 cw_X9_mix ml_X9_341 mi_X9_mix se_X9_mix lyM_0 rfl (by decide) rfl (Nat.le_of_ble_eq_true rfl) (Nat.le_of_ble_eq_true rfl) (m_X9_mix  M (gI M 9 x1.toNatClampNeg)  _ hc_14) ?_
    obtain ⟨x_15, ex_16, h⟩ := lett_some h
    refine T_iinc (L' := [aR (some 0), aI x_15, aU]) dX9_mixGround_59 rfl (ic_inc ic_1 ex_16) (Nat.le_of_ble_eq_true rfl) rfl ?_
    refine T_goto (tgt := 41) dX9_mixGround_62 (by decide) ?_
    obtain rfl := sm1 h
    exact hI _ _ rfl
set_option maxRecDepth 100000 in
set_option maxHeartbeats 4000000 in
theorem l_X9_mixGround_L41 {Po : Po_} (eM : Mem) : ∀ (k : Nat) (x1 : Int32) (M : Mem), loop (X9_mixGround_L41 ) k (x1, M) = some eM → (T RX9 cX9_mixGround 3 none 2 6 0 0 false Po 65 [aR (some 0), aU, aU] [] LAYM rfm eM 0 0) → T RX9 cX9_mixGround 3 none 2 6 0 0 false Po 41 [aR (some 0), aI x1, aU] [] LAYM rfm M 0 0 := by
  intro k
  induction k with
  | zero => intro x1 M h; cases h
  | succ k ih =>
    intro x1 M h hE
    obtain ⟨x, hx, hx1, hx2⟩ := loop_succ h
    exact s_X9_mixGround_L41    x1 M x hx (fun q0 q1 e => ih q0 q1 (hx1 _ e) hE) (fun q0 e => by cases hx2 _ e; exact hE)
set_option maxRecDepth 100000 in
set_option maxHeartbeats 4000000 in
theorem s_X9_mixGround_L74 (x1 : Int32) (x2 : Int32) (M : Mem) {Po : Po_} (x : (Int32 × Mem) ⊕ (Mem)) (h : X9_mixGround_L74 x1 (x2, M) = some x) (hI : ∀ (ix2 : Int32) (iM : Mem), x = .inl (ix2, iM) → T RX9 cX9_mixGround 3 none 2 6 0 0 false Po 74 [aR (some 0), aI x1, aI ix2] [] LAYM rfm iM 0 0) (hE0 : ∀ (eM : Mem), x = .inr eM → T RX9 cX9_mixGround 3 none 2 6 0 0 false Po 113 [aR (some 0), aI x1, aU] [] LAYM rfm eM 0 0) : T RX9 cX9_mixGround 3 none 2 6 0 0 false Po 74 [aR (some 0), aI x1, aI x2] [] LAYM rfm M 0 0 := by
  unfold X9_mixGround_L74 at h
  simp only at h
  refine T_iload_n dX9_mixGround_74 rfl ?_
  refine T_aload_n dX9_mixGround_75 rfl ?_
  refine T_getI dX9_mixGround_76 clOK_X9 fl_X9_155 lyM_0 rfl ?_
  refine T_icmp_ge (tgt := 113) dX9_mixGround_79 (by decide) (fun hc => ?_) (fun hc => ?_)
  · have h := it_pos hc h
    obtain rfl := sm1 h
    refine T_mask [true, true, false] rfl ?_
    exact hE0 _ rfl
  · have h := it_neg hc h
    refine T_aload_n dX9_mixGround_82 rfl ?_
    refine T_getR dX9_mixGround_83 clOK_X9 fl_X9_53 lyM_0 rfl rfl ?_
    refine T_iload_n dX9_mixGround_86 rfl ?_
    obtain ⟨hi_18, h⟩ := chk_some h
    refine T_iald dX9_mixGround_87 lyM_14 (inb_in hi_18) ?_
    refine T_iconst dX9_mixGround_88 ic_1 ?_
    refine T_icmp_ne (tgt := 113) dX9_mixGround_89 (by decide) (fun hc => ?_) (fun hc => ?_)
    · have h := it_neg hc h
      obtain rfl := sm1 h
      refine T_mask [true, true, false] rfl ?_
      exact hE0 _ rfl
    · have h := it_pos hc h
      refine T_aload_n dX9_mixGround_92 rfl ?_
      refine T_aload_n dX9_mixGround_93 rfl ?_
      refine T_getR dX9_mixGround_94 clOK_X9 fl_X9_56 lyM_0 rfl rfl ?_
      refine T_bipush dX9_mixGround_97 bp_17 ?_
      refine T_iload_n dX9_mixGround_99 rfl ?_
      refine T_imul dX9_mixGround_100 ?_
      refine T_iload_n dX9_mixGround_101 rfl ?_
      refine T_iadd dX9_mixGround_102 ?_
      obtain ⟨hi_19, h⟩ := chk_some h
      refine T_iald dX9_mixGround_103 lyM_15 (inb_in hi_19) ?_
      obtain ⟨M_20, hc_21, h⟩ := bd1_some h
      refine T_cvv (as := [vI (gI M 15 (((nI 17) * x1) + x2).toNatClampNeg)]) dX9_mixGround_104 cw_X9_mix ml_X9_341 mi_X9_mix se_X9_mix lyM_0 rfl (by decide) rfl (Nat.le_of_ble_eq_true rfl) (Nat.le_of_ble_eq_true rfl) (m_X9_mix  M (gI M 15 (((nI 17) * x1) + x2).toNatClampNeg)  _ hc_21) ?_
      obtain ⟨x_22, ex_23, h⟩ := lett_some h
      refine T_iinc (L' := [aR (some 0), aI x1, aI x_22]) dX9_mixGround_107 rfl (ic_inc ic_1 ex_23) (Nat.le_of_ble_eq_true rfl) rfl ?_
      refine T_goto (tgt := 74) dX9_mixGround_110 (by decide) ?_
      obtain rfl := sm1 h
      exact hI _ _ rfl
set_option maxRecDepth 100000 in
set_option maxHeartbeats 4000000 in
theorem l_X9_mixGround_L74 (x1 : Int32) {Po : Po_} (eM : Mem) : ∀ (k : Nat) (x2 : Int32) (M : Mem), loop (X9_mixGround_L74 x1) k (x2, M) = some eM → (T RX9 cX9_mixGround 3 none 2 6 0 0 false Po 113 [aR (some 0), aI x1, aU] [] LAYM rfm eM 0 0) → T RX9 cX9_mixGround 3 none 2 6 0 0 false Po 74 [aR (some 0), aI x1, aI x2] [] LAYM rfm M 0 0 := by
  intro k
  induction k with
  | zero => intro x2 M h; cases h
  | succ k ih =>
    intro x2 M h hE
    obtain ⟨x, hx, hx1, hx2⟩ := loop_succ h
    exact s_X9_mixGround_L74  x1  x2 M x hx (fun q0 q1 e => ih q0 q1 (hx1 _ e) hE) (fun q0 e => by cases hx2 _ e; exact hE)
set_option maxRecDepth 100000 in
set_option maxHeartbeats 4000000 in
theorem j_X9_mixGround_J140 (M : Mem) (x1 : Int32) (s0 : Int32) {Po : Po_} (x : (Int32 × Mem) ⊕ (Mem)) (h : X9_mixGround_J140 M x1 s0 = some x) (hI : ∀ (ix1 : Int32) (iM : Mem), x = .inl (ix1, iM) → T RX9 cX9_mixGround 3 none 2 6 0 0 false Po 67 [aR (some 0), aI ix1, aU] [] LAYM rfm iM 0 0) (hE0 : ∀ (eM : Mem), x = .inr eM → Po (vI 0) LAYM rfm eM) : T RX9 cX9_mixGround 3 none 2 6 0 0 false Po 140 [aR (some 0), aI x1, aU] [vI s0, vR (some 0)] LAYM rfm M 0 0 := by
  unfold X9_mixGround_J140 at h
  obtain ⟨M_26, hc_27, h⟩ := bd1_some h
  refine T_cvv (as := [vI s0]) dX9_mixGround_140 cw_X9_mix ml_X9_341 mi_X9_mix se_X9_mix lyM_0 rfl (by decide) rfl (Nat.le_of_ble_eq_true rfl) (Nat.le_of_ble_eq_true rfl) (m_X9_mix  M s0  _ hc_27) ?_
  obtain ⟨x_28, ex_29, h⟩ := lett_some h
  refine T_iinc (L' := [aR (some 0), aI x_28, aU]) dX9_mixGround_143 rfl (ic_inc ic_1 ex_29) (Nat.le_of_ble_eq_true rfl) rfl ?_
  refine T_goto (tgt := 67) dX9_mixGround_146 (by decide) ?_
  obtain rfl := sm1 h
  exact hI _ _ rfl
set_option maxRecDepth 100000 in
set_option maxHeartbeats 4000000 in
theorem s_X9_mixGround_L67 (x1 : Int32) (M : Mem) {Po : Po_} (x : (Int32 × Mem) ⊕ (Mem)) (h : X9_mixGround_L67  (x1, M) = some x) (hI : ∀ (ix1 : Int32) (iM : Mem), x = .inl (ix1, iM) → T RX9 cX9_mixGround 3 none 2 6 0 0 false Po 67 [aR (some 0), aI ix1, aU] [] LAYM rfm iM 0 0) (hE0 : ∀ (eM : Mem), x = .inr eM → Po (vI 0) LAYM rfm eM) : T RX9 cX9_mixGround 3 none 2 6 0 0 false Po 67 [aR (some 0), aI x1, aU] [] LAYM rfm M 0 0 := by
  unfold X9_mixGround_L67 at h
  simp only at h
  refine T_iload_n dX9_mixGround_67 rfl ?_
  refine T_iconst dX9_mixGround_68 ic_3 ?_
  refine T_icmp_ge (tgt := 149) dX9_mixGround_69 (by decide) (fun hc => ?_) (fun hc => ?_)
  · have h := it_pos hc h
    obtain rfl := sm1 h
    exact T_vret dX9_mixGround_149 (hE0 _ rfl)
  · have h := it_neg hc h
    refine T_iconst dX9_mixGround_72 ic_0 ?_
    refine T_istore_n (i := 2) (L' := [aR (some 0), aI x1, aI 0]) dX9_mixGround_73 rfl (Nat.le_of_ble_eq_true rfl) rfl ?_
    obtain ⟨M_24, hl, h⟩ := bd1_some h
    refine l_X9_mixGround_L74  x1  _ FU 0 M hl ?_
    refine T_aload_n dX9_mixGround_113 rfl ?_
    refine T_aload_n dX9_mixGround_114 rfl ?_
    refine T_getR dX9_mixGround_115 clOK_X9 fl_X9_53 lyM_0 rfl rfl ?_
    refine T_iload_n dX9_mixGround_118 rfl ?_
    obtain ⟨hi_25, h⟩ := chk_some h
    refine T_iald dX9_mixGround_119 lyM_14 (inb_in hi_25) ?_
    refine T_iconst dX9_mixGround_120 ic_1 ?_
    refine T_icmp_ne (tgt := 139) dX9_mixGround_121 (by decide) (fun hc => ?_) (fun hc => ?_)
    · have h := it_neg hc h
      refine T_iconst dX9_mixGround_139 ic_m1 ?_
      exact j_X9_mixGround_J140  M_24 x1 (-1)  _ h hI hE0
    · have h := it_pos hc h
      refine T_aload_n dX9_mixGround_124 rfl ?_
      refine T_getR dX9_mixGround_125 clOK_X9 fl_X9_56 lyM_0 rfl rfl ?_
      refine T_bipush dX9_mixGround_128 bp_17 ?_
      refine T_iload_n dX9_mixGround_130 rfl ?_
      refine T_imul dX9_mixGround_131 ?_
      refine T_bipush dX9_mixGround_132 bp_16 ?_
      refine T_iadd dX9_mixGround_134 ?_
      obtain ⟨hi_30, h⟩ := chk_some h
      refine T_iald dX9_mixGround_135 lyM_15 (inb_in hi_30) ?_
      refine T_goto (tgt := 140) dX9_mixGround_136 (by decide) ?_
      exact j_X9_mixGround_J140  M_24 x1 (gI M_24 15 (((nI 17) * x1) + (nI 16)).toNatClampNeg)  _ h hI hE0
set_option maxRecDepth 100000 in
set_option maxHeartbeats 4000000 in
theorem l_X9_mixGround_L67 {Po : Po_} (eM : Mem) : ∀ (k : Nat) (x1 : Int32) (M : Mem), loop (X9_mixGround_L67 ) k (x1, M) = some eM → (Po (vI 0) LAYM rfm eM) → T RX9 cX9_mixGround 3 none 2 6 0 0 false Po 67 [aR (some 0), aI x1, aU] [] LAYM rfm M 0 0 := by
  intro k
  induction k with
  | zero => intro x1 M h; cases h
  | succ k ih =>
    intro x1 M h hE
    obtain ⟨x, hx, hx1, hx2⟩ := loop_succ h
    exact s_X9_mixGround_L67    x1 M x hx (fun q0 q1 e => ih q0 q1 (hx1 _ e) hE) (fun q0 e => by cases hx2 _ e; exact hE)
set_option maxRecDepth 100000 in
set_option maxHeartbeats 4000000 in
theorem m_X9_mixGround (M : Mem) (M' : Mem) (h : F_X9_mixGround M = some M') : Cal yX9_mixGround cX9_mixGround 3 none 2 6 0 0 false [vR (some 0)] LAYM rfm M (eqp (vI 0) LAYM rfm M') := by
  refine Cal.of (by decide +kernel) (Nat.le_of_ble_eq_true rfl) (fun h => by cases h) ?_
  unfold F_X9_mixGround at h
  show T RX9 cX9_mixGround 3 none 2 6 0 0 false (eqp (vI 0) LAYM rfm M') 0 [aR (some 0), aU, aU] [] LAYM rfm M 0 0
  refine T_iconst dX9_mixGround_0 ic_0 ?_
  refine T_istore_n (i := 1) (L' := [aR (some 0), aI 0, aU]) dX9_mixGround_1 rfl (Nat.le_of_ble_eq_true rfl) rfl ?_
  obtain ⟨M_11, hl, h⟩ := bd1_some h
  refine l_X9_mixGround_L2    _ FU 0 M hl ?_
  refine T_iconst dX9_mixGround_39 ic_0 ?_
  refine T_istore_n (i := 1) (L' := [aR (some 0), aI 0, aU]) dX9_mixGround_40 rfl (Nat.le_of_ble_eq_true rfl) rfl ?_
  obtain ⟨M_17, hl, h⟩ := bd1_some h
  refine l_X9_mixGround_L41    _ FU 0 M_11 hl ?_
  refine T_iconst dX9_mixGround_65 ic_0 ?_
  refine T_istore_n (i := 1) (L' := [aR (some 0), aI 0, aU]) dX9_mixGround_66 rfl (Nat.le_of_ble_eq_true rfl) rfl ?_
  exact l_X9_mixGround_L67    _ FU 0 M_17 h ⟨rfl, rfl, rfl, rfl⟩
def X9_digest_L9 : Int32 × Mem → Option ((Int32 × Mem) ⊕ (Mem))
  | (x1, M) =>
    if (nI 9) < x1 then some (.inr M)
    else bd2 (F_X9_tells M x1) fun r_3 M_4 => bd1 (F_X9_mix M_4 r_3) fun M_6 => lett (x1 + 1) fun x_8 => some (.inl (x_8, M_6))
def X9_digest_L67 (x1 : Int32) : Int32 × Mem → Option ((Int32 × Mem) ⊕ (Mem))
  | (x2, M) =>
    chk (inb x1 6 = true) (if (gI M 2 x1.toNatClampNeg) ≤ x2 then some (.inr M)
    else bd1 (F_X9_rowAt M x1 x2) fun r_18 => bd1 (F_X9_mix M r_18) fun M_20 => lett (x2 + 1) fun x_22 => some (.inl (x_22, M_20)))
def X9_digest_J62 (M : Mem) (x1 : Int32) (s0 : Int32) : Option ((Int32 × Mem) ⊕ (Mem)) :=
 bd1 (F_X9_mix M s0) fun M_15 => bd1 (loop (X9_digest_L67 x1) FU (0, M_15)) fun M_24 => lett (x1 + 1) fun x_25 => some (.inl (x_25, M_24))
def X9_digest_L36 : Int32 × Mem → Option ((Int32 × Mem) ⊕ (Mem))
  | (x1, M) =>
    if (nI 6) ≤ x1 then some (.inr M)
    else chk (inb x1 6 = true) (if 0 ≤ (gI M 2 x1.toNatClampNeg) then chk (inb x1 6 = true) (X9_digest_J62 M x1 (gI M 2 x1.toNatClampNeg))
    else X9_digest_J62 M x1 (-1))
def X9_digest_L131 (x1 : Int32) : Int32 × Mem → Option ((Int32 × Mem) ⊕ (Mem))
  | (x2, M) =>
    chk (inb x1 4 = true) (if (gI M 5 x1.toNatClampNeg) ≤ x2 then some (.inr M)
    else chk (inb (((nI 60) * x1) + x2) 240 = true) (bd1 (F_X9_mix M (gI M 6 (((nI 60) * x1) + x2).toNatClampNeg)) fun M_34 => lett (x2 + 1) fun x_36 => some (.inl (x_36, M_34))))
def X9_digest_J126 (M : Mem) (x1 : Int32) (s0 : Int32) : Option ((Int32 × Mem) ⊕ (Int64 × Mem)) :=
 bd1 (F_X9_mix M s0) fun M_30 => bd1 (loop (X9_digest_L131 x1) FU (0, M_30)) fun M_38 => lett (x1 + 1) fun x_39 => some (.inl (x_39, M_38))
def X9_digest_L101 : Int32 × Mem → Option ((Int32 × Mem) ⊕ (Int64 × Mem))
  | (x1, M) =>
    if (nI 4) ≤ x1 then some (.inr (gJ M 0 33, M))
    else chk (inb x1 4 = true) (if 0 ≤ (gI M 5 x1.toNatClampNeg) then chk (inb x1 4 = true) (X9_digest_J126 M x1 (gI M 5 x1.toNatClampNeg))
    else X9_digest_J126 M x1 (-1))
def F_X9_digest (M : Mem) : Option (Int64 × Mem) :=
 lett (sJ M 0 33 17) fun M_1 => bd1 (loop (X9_digest_L9 ) FU (0, M_1)) fun M_10 => bd1 (F_X9_mixGround M_10) fun M_11 => bd1 (loop (X9_digest_L36 ) FU (0, M_11)) fun M_27 => loop (X9_digest_L101 ) FU (0, M_27)
set_option maxRecDepth 100000 in
set_option maxHeartbeats 4000000 in
theorem s_X9_digest_L9 (x1 : Int32) (M : Mem) {Po : Po_} (x : (Int32 × Mem) ⊕ (Mem)) (h : X9_digest_L9  (x1, M) = some x) (hI : ∀ (ix1 : Int32) (iM : Mem), x = .inl (ix1, iM) → T RX9 cX9_digest 3 (some .long) 1 7 0 0 false Po 9 [aR (some 0), aI ix1, aU] [] LAYM rfm iM 0 0) (hE0 : ∀ (eM : Mem), x = .inr eM → T RX9 cX9_digest 3 (some .long) 1 7 0 0 false Po 30 [aR (some 0), aU, aU] [] LAYM rfm eM 0 0) : T RX9 cX9_digest 3 (some .long) 1 7 0 0 false Po 9 [aR (some 0), aI x1, aU] [] LAYM rfm M 0 0 := by
  unfold X9_digest_L9 at h
  simp only at h
  refine T_iload_n dX9_digest_9 rfl ?_
  refine T_bipush dX9_digest_10 bp_9 ?_
  refine T_icmp_gt (tgt := 30) dX9_digest_12 (by decide) (fun hc => ?_) (fun hc => ?_)
  · have h := it_pos hc h
    obtain rfl := sm1 h
    refine T_mask [true, false, true] rfl ?_
    exact hE0 _ rfl
  · have h := it_neg hc h
    refine T_aload_n dX9_digest_15 rfl ?_
    refine T_aload_n dX9_digest_16 rfl ?_
    refine T_iload_n dX9_digest_17 rfl ?_
    obtain ⟨r_3, M_4, hc_5, h⟩ := bd2_some h
    refine T_cvi (as := [vI x1]) dX9_digest_18 cw_X9_tells ml_X9_333 mi_X9_tells se_X9_tells lyM_0 rfl (by decide) rfl (Nat.le_of_ble_eq_true rfl) (Nat.le_of_ble_eq_true rfl) (m_X9_tells  M x1  _ _ hc_5) ?_
    obtain ⟨M_6, hc_7, h⟩ := bd1_some h
    refine T_cvv (as := [vI r_3]) dX9_digest_21 cw_X9_mix ml_X9_341 mi_X9_mix se_X9_mix lyM_0 rfl (by decide) rfl (Nat.le_of_ble_eq_true rfl) (Nat.le_of_ble_eq_true rfl) (m_X9_mix  M_4 r_3  _ hc_7) ?_
    obtain ⟨x_8, ex_9, h⟩ := lett_some h
    refine T_iinc (L' := [aR (some 0), aI x_8, aU]) dX9_digest_24 rfl (ic_inc ic_1 ex_9) (Nat.le_of_ble_eq_true rfl) rfl ?_
    refine T_goto (tgt := 9) dX9_digest_27 (by decide) ?_
    obtain rfl := sm1 h
    exact hI _ _ rfl
set_option maxRecDepth 100000 in
set_option maxHeartbeats 4000000 in
theorem l_X9_digest_L9 {Po : Po_} (eM : Mem) : ∀ (k : Nat) (x1 : Int32) (M : Mem), loop (X9_digest_L9 ) k (x1, M) = some eM → (T RX9 cX9_digest 3 (some .long) 1 7 0 0 false Po 30 [aR (some 0), aU, aU] [] LAYM rfm eM 0 0) → T RX9 cX9_digest 3 (some .long) 1 7 0 0 false Po 9 [aR (some 0), aI x1, aU] [] LAYM rfm M 0 0 := by
  intro k
  induction k with
  | zero => intro x1 M h; cases h
  | succ k ih =>
    intro x1 M h hE
    obtain ⟨x, hx, hx1, hx2⟩ := loop_succ h
    exact s_X9_digest_L9    x1 M x hx (fun q0 q1 e => ih q0 q1 (hx1 _ e) hE) (fun q0 e => by cases hx2 _ e; exact hE)
set_option maxRecDepth 100000 in
set_option maxHeartbeats 4000000 in
theorem s_X9_digest_L67 (x1 : Int32) (x2 : Int32) (M : Mem) {Po : Po_} (x : (Int32 × Mem) ⊕ (Mem)) (h : X9_digest_L67 x1 (x2, M) = some x) (hI : ∀ (ix2 : Int32) (iM : Mem), x = .inl (ix2, iM) → T RX9 cX9_digest 3 (some .long) 1 7 0 0 false Po 67 [aR (some 0), aI x1, aI ix2] [] LAYM rfm iM 0 0) (hE0 : ∀ (eM : Mem), x = .inr eM → T RX9 cX9_digest 3 (some .long) 1 7 0 0 false Po 93 [aR (some 0), aI x1, aU] [] LAYM rfm eM 0 0) : T RX9 cX9_digest 3 (some .long) 1 7 0 0 false Po 67 [aR (some 0), aI x1, aI x2] [] LAYM rfm M 0 0 := by
  unfold X9_digest_L67 at h
  simp only at h
  refine T_iload_n dX9_digest_67 rfl ?_
  refine T_aload_n dX9_digest_68 rfl ?_
  refine T_getR dX9_digest_69 clOK_X9 fl_X9_17 lyM_0 rfl rfl ?_
  refine T_iload_n dX9_digest_72 rfl ?_
  obtain ⟨hi_17, h⟩ := chk_some h
  refine T_iald dX9_digest_73 lyM_2 (inb_in hi_17) ?_
  refine T_icmp_ge (tgt := 93) dX9_digest_74 (by decide) (fun hc => ?_) (fun hc => ?_)
  · have h := it_pos hc h
    obtain rfl := sm1 h
    refine T_mask [true, true, false] rfl ?_
    exact hE0 _ rfl
  · have h := it_neg hc h
    refine T_aload_n dX9_digest_77 rfl ?_
    refine T_aload_n dX9_digest_78 rfl ?_
    refine T_iload_n dX9_digest_79 rfl ?_
    refine T_iload_n dX9_digest_80 rfl ?_
    obtain ⟨r_18, hc_19, h⟩ := bd1_some h
    refine T_cvi (as := [vI x1, vI x2]) dX9_digest_81 cw_X9_rowAt ml_X9_101 mi_X9_rowAt se_X9_rowAt lyM_0 rfl (by decide) rfl (Nat.le_of_ble_eq_true rfl) (Nat.le_of_ble_eq_true rfl) (m_X9_rowAt  M x1 x2  _ hc_19) ?_
    obtain ⟨M_20, hc_21, h⟩ := bd1_some h
    refine T_cvv (as := [vI r_18]) dX9_digest_84 cw_X9_mix ml_X9_341 mi_X9_mix se_X9_mix lyM_0 rfl (by decide) rfl (Nat.le_of_ble_eq_true rfl) (Nat.le_of_ble_eq_true rfl) (m_X9_mix  M r_18  _ hc_21) ?_
    obtain ⟨x_22, ex_23, h⟩ := lett_some h
    refine T_iinc (L' := [aR (some 0), aI x1, aI x_22]) dX9_digest_87 rfl (ic_inc ic_1 ex_23) (Nat.le_of_ble_eq_true rfl) rfl ?_
    refine T_goto (tgt := 67) dX9_digest_90 (by decide) ?_
    obtain rfl := sm1 h
    exact hI _ _ rfl
set_option maxRecDepth 100000 in
set_option maxHeartbeats 4000000 in
theorem l_X9_digest_L67 (x1 : Int32) {Po : Po_} (eM : Mem) : ∀ (k : Nat) (x2 : Int32) (M : Mem), loop (X9_digest_L67 x1) k (x2, M) = some eM → (T RX9 cX9_digest 3 (some .long) 1 7 0 0 false Po 93 [aR (some 0), aI x1, aU] [] LAYM rfm eM 0 0) → T RX9 cX9_digest 3 (some .long) 1 7 0 0 false Po 67 [aR (some 0), aI x1, aI x2] [] LAYM rfm M 0 0 := by
  intro k
  induction k with
  | zero => intro x2 M h; cases h
  | succ k ih =>
    intro x2 M h hE
    obtain ⟨x, hx, hx1, hx2⟩ := loop_succ h
    exact s_X9_digest_L67  x1  x2 M x hx (fun q0 q1 e => ih q0 q1 (hx1 _ e) hE) (fun q0 e => by cases hx2 _ e; exact hE)
set_option maxRecDepth 100000 in
set_option maxHeartbeats 4000000 in
theorem j_X9_digest_J62 (M : Mem) (x1 : Int32) (s0 : Int32) {Po : Po_} (x : (Int32 × Mem) ⊕ (Mem)) (h : X9_digest_J62 M x1 s0 = some x) (hI : ∀ (ix1 : Int32) (iM : Mem), x = .inl (ix1, iM) → T RX9 cX9_digest 3 (some .long) 1 7 0 0 false Po 36 [aR (some 0), aI ix1, aU] [] LAYM rfm iM 0 0) (hE0 : ∀ (eM : Mem), x = .inr eM → T RX9 cX9_digest 3 (some .long) 1 7 0 0 false Po 99 [aR (some 0), aU, aU] [] LAYM rfm eM 0 0) : T RX9 cX9_digest 3 (some .long) 1 7 0 0 false Po 62 [aR (some 0), aI x1, aU] [vI s0, vR (some 0)] LAYM rfm M 0 0 := by
  unfold X9_digest_J62 at h
  obtain ⟨M_15, hc_16, h⟩ := bd1_some h
  refine T_cvv (as := [vI s0]) dX9_digest_62 cw_X9_mix ml_X9_341 mi_X9_mix se_X9_mix lyM_0 rfl (by decide) rfl (Nat.le_of_ble_eq_true rfl) (Nat.le_of_ble_eq_true rfl) (m_X9_mix  M s0  _ hc_16) ?_
  refine T_iconst dX9_digest_65 ic_0 ?_
  refine T_istore_n (i := 2) (L' := [aR (some 0), aI x1, aI 0]) dX9_digest_66 rfl (Nat.le_of_ble_eq_true rfl) rfl ?_
  obtain ⟨M_24, hl, h⟩ := bd1_some h
  refine l_X9_digest_L67  x1  _ FU 0 M_15 hl ?_
  obtain ⟨x_25, ex_26, h⟩ := lett_some h
  refine T_iinc (L' := [aR (some 0), aI x_25, aU]) dX9_digest_93 rfl (ic_inc ic_1 ex_26) (Nat.le_of_ble_eq_true rfl) rfl ?_
  refine T_goto (tgt := 36) dX9_digest_96 (by decide) ?_
  obtain rfl := sm1 h
  exact hI _ _ rfl
set_option maxRecDepth 100000 in
set_option maxHeartbeats 4000000 in
theorem s_X9_digest_L36 (x1 : Int32) (M : Mem) {Po : Po_} (x : (Int32 × Mem) ⊕ (Mem)) (h : X9_digest_L36  (x1, M) = some x) (hI : ∀ (ix1 : Int32) (iM : Mem), x = .inl (ix1, iM) → T RX9 cX9_digest 3 (some .long) 1 7 0 0 false Po 36 [aR (some 0), aI ix1, aU] [] LAYM rfm iM 0 0) (hE0 : ∀ (eM : Mem), x = .inr eM → T RX9 cX9_digest 3 (some .long) 1 7 0 0 false Po 99 [aR (some 0), aU, aU] [] LAYM rfm eM 0 0) : T RX9 cX9_digest 3 (some .long) 1 7 0 0 false Po 36 [aR (some 0), aI x1, aU] [] LAYM rfm M 0 0 := by
  unfold X9_digest_L36 at h
  simp only at h
  refine T_iload_n dX9_digest_36 rfl ?_
  refine T_bipush dX9_digest_37 bp_6 ?_
  refine T_icmp_ge (tgt := 99) dX9_digest_39 (by decide) (fun hc => ?_) (fun hc => ?_)
  · have h := it_pos hc h
    obtain rfl := sm1 h
    refine T_mask [true, false, true] rfl ?_
    exact hE0 _ rfl
  · have h := it_neg hc h
    refine T_aload_n dX9_digest_42 rfl ?_
    refine T_aload_n dX9_digest_43 rfl ?_
    refine T_getR dX9_digest_44 clOK_X9 fl_X9_17 lyM_0 rfl rfl ?_
    refine T_iload_n dX9_digest_47 rfl ?_
    obtain ⟨hi_13, h⟩ := chk_some h
    refine T_iald dX9_digest_48 lyM_2 (inb_in hi_13) ?_
    refine T_if_ge (tgt := 56) dX9_digest_49 (by decide) (fun hc => ?_) (fun hc => ?_)
    · have h := it_pos hc h
      refine T_aload_n dX9_digest_56 rfl ?_
      refine T_getR dX9_digest_57 clOK_X9 fl_X9_17 lyM_0 rfl rfl ?_
      refine T_iload_n dX9_digest_60 rfl ?_
      obtain ⟨hi_14, h⟩ := chk_some h
      refine T_iald dX9_digest_61 lyM_2 (inb_in hi_14) ?_
      exact j_X9_digest_J62  M x1 (gI M 2 x1.toNatClampNeg)  _ h hI hE0
    · have h := it_neg hc h
      refine T_iconst dX9_digest_52 ic_m1 ?_
      refine T_goto (tgt := 62) dX9_digest_53 (by decide) ?_
      exact j_X9_digest_J62  M x1 (-1)  _ h hI hE0
set_option maxRecDepth 100000 in
set_option maxHeartbeats 4000000 in
theorem l_X9_digest_L36 {Po : Po_} (eM : Mem) : ∀ (k : Nat) (x1 : Int32) (M : Mem), loop (X9_digest_L36 ) k (x1, M) = some eM → (T RX9 cX9_digest 3 (some .long) 1 7 0 0 false Po 99 [aR (some 0), aU, aU] [] LAYM rfm eM 0 0) → T RX9 cX9_digest 3 (some .long) 1 7 0 0 false Po 36 [aR (some 0), aI x1, aU] [] LAYM rfm M 0 0 := by
  intro k
  induction k with
  | zero => intro x1 M h; cases h
  | succ k ih =>
    intro x1 M h hE
    obtain ⟨x, hx, hx1, hx2⟩ := loop_succ h
    exact s_X9_digest_L36    x1 M x hx (fun q0 q1 e => ih q0 q1 (hx1 _ e) hE) (fun q0 e => by cases hx2 _ e; exact hE)
set_option maxRecDepth 100000 in
set_option maxHeartbeats 4000000 in
theorem s_X9_digest_L131 (x1 : Int32) (x2 : Int32) (M : Mem) {Po : Po_} (x : (Int32 × Mem) ⊕ (Mem)) (h : X9_digest_L131 x1 (x2, M) = some x) (hI : ∀ (ix2 : Int32) (iM : Mem), x = .inl (ix2, iM) → T RX9 cX9_digest 3 (some .long) 1 7 0 0 false Po 131 [aR (some 0), aI x1, aI ix2] [] LAYM rfm iM 0 0) (hE0 : ∀ (eM : Mem), x = .inr eM → T RX9 cX9_digest 3 (some .long) 1 7 0 0 false Po 162 [aR (some 0), aI x1, aU] [] LAYM rfm eM 0 0) : T RX9 cX9_digest 3 (some .long) 1 7 0 0 false Po 131 [aR (some 0), aI x1, aI x2] [] LAYM rfm M 0 0 := by
  unfold X9_digest_L131 at h
  simp only at h
  refine T_iload_n dX9_digest_131 rfl ?_
  refine T_aload_n dX9_digest_132 rfl ?_
  refine T_getR dX9_digest_133 clOK_X9 fl_X9_26 lyM_0 rfl rfl ?_
  refine T_iload_n dX9_digest_136 rfl ?_
  obtain ⟨hi_32, h⟩ := chk_some h
  refine T_iald dX9_digest_137 lyM_5 (inb_in hi_32) ?_
  refine T_icmp_ge (tgt := 162) dX9_digest_138 (by decide) (fun hc => ?_) (fun hc => ?_)
  · have h := it_pos hc h
    obtain rfl := sm1 h
    refine T_mask [true, true, false] rfl ?_
    exact hE0 _ rfl
  · have h := it_neg hc h
    refine T_aload_n dX9_digest_141 rfl ?_
    refine T_aload_n dX9_digest_142 rfl ?_
    refine T_getR dX9_digest_143 clOK_X9 fl_X9_29 lyM_0 rfl rfl ?_
    refine T_bipush dX9_digest_146 bp_60 ?_
    refine T_iload_n dX9_digest_148 rfl ?_
    refine T_imul dX9_digest_149 ?_
    refine T_iload_n dX9_digest_150 rfl ?_
    refine T_iadd dX9_digest_151 ?_
    obtain ⟨hi_33, h⟩ := chk_some h
    refine T_iald dX9_digest_152 lyM_6 (inb_in hi_33) ?_
    obtain ⟨M_34, hc_35, h⟩ := bd1_some h
    refine T_cvv (as := [vI (gI M 6 (((nI 60) * x1) + x2).toNatClampNeg)]) dX9_digest_153 cw_X9_mix ml_X9_341 mi_X9_mix se_X9_mix lyM_0 rfl (by decide) rfl (Nat.le_of_ble_eq_true rfl) (Nat.le_of_ble_eq_true rfl) (m_X9_mix  M (gI M 6 (((nI 60) * x1) + x2).toNatClampNeg)  _ hc_35) ?_
    obtain ⟨x_36, ex_37, h⟩ := lett_some h
    refine T_iinc (L' := [aR (some 0), aI x1, aI x_36]) dX9_digest_156 rfl (ic_inc ic_1 ex_37) (Nat.le_of_ble_eq_true rfl) rfl ?_
    refine T_goto (tgt := 131) dX9_digest_159 (by decide) ?_
    obtain rfl := sm1 h
    exact hI _ _ rfl
set_option maxRecDepth 100000 in
set_option maxHeartbeats 4000000 in
theorem l_X9_digest_L131 (x1 : Int32) {Po : Po_} (eM : Mem) : ∀ (k : Nat) (x2 : Int32) (M : Mem), loop (X9_digest_L131 x1) k (x2, M) = some eM → (T RX9 cX9_digest 3 (some .long) 1 7 0 0 false Po 162 [aR (some 0), aI x1, aU] [] LAYM rfm eM 0 0) → T RX9 cX9_digest 3 (some .long) 1 7 0 0 false Po 131 [aR (some 0), aI x1, aI x2] [] LAYM rfm M 0 0 := by
  intro k
  induction k with
  | zero => intro x2 M h; cases h
  | succ k ih =>
    intro x2 M h hE
    obtain ⟨x, hx, hx1, hx2⟩ := loop_succ h
    exact s_X9_digest_L131  x1  x2 M x hx (fun q0 q1 e => ih q0 q1 (hx1 _ e) hE) (fun q0 e => by cases hx2 _ e; exact hE)
set_option maxRecDepth 100000 in
set_option maxHeartbeats 4000000 in
theorem j_X9_digest_J126 (M : Mem) (x1 : Int32) (s0 : Int32) {Po : Po_} (x : (Int32 × Mem) ⊕ (Int64 × Mem)) (h : X9_digest_J126 M x1 s0 = some x) (hI : ∀ (ix1 : Int32) (iM : Mem), x = .inl (ix1, iM) → T RX9 cX9_digest 3 (some .long) 1 7 0 0 false Po 101 [aR (some 0), aI ix1, aU] [] LAYM rfm iM 0 0) (hE0 : ∀ (er : Int64) (eM : Mem), x = .inr (er, eM) → Po (vJ er) LAYM rfm eM) : T RX9 cX9_digest 3 (some .long) 1 7 0 0 false Po 126 [aR (some 0), aI x1, aU] [vI s0, vR (some 0)] LAYM rfm M 0 0 := by
  unfold X9_digest_J126 at h
  obtain ⟨M_30, hc_31, h⟩ := bd1_some h
  refine T_cvv (as := [vI s0]) dX9_digest_126 cw_X9_mix ml_X9_341 mi_X9_mix se_X9_mix lyM_0 rfl (by decide) rfl (Nat.le_of_ble_eq_true rfl) (Nat.le_of_ble_eq_true rfl) (m_X9_mix  M s0  _ hc_31) ?_
  refine T_iconst dX9_digest_129 ic_0 ?_
  refine T_istore_n (i := 2) (L' := [aR (some 0), aI x1, aI 0]) dX9_digest_130 rfl (Nat.le_of_ble_eq_true rfl) rfl ?_
  obtain ⟨M_38, hl, h⟩ := bd1_some h
  refine l_X9_digest_L131  x1  _ FU 0 M_30 hl ?_
  obtain ⟨x_39, ex_40, h⟩ := lett_some h
  refine T_iinc (L' := [aR (some 0), aI x_39, aU]) dX9_digest_162 rfl (ic_inc ic_1 ex_40) (Nat.le_of_ble_eq_true rfl) rfl ?_
  refine T_goto (tgt := 101) dX9_digest_165 (by decide) ?_
  obtain rfl := sm1 h
  exact hI _ _ rfl
set_option maxRecDepth 100000 in
set_option maxHeartbeats 4000000 in
theorem s_X9_digest_L101 (x1 : Int32) (M : Mem) {Po : Po_} (x : (Int32 × Mem) ⊕ (Int64 × Mem)) (h : X9_digest_L101  (x1, M) = some x) (hI : ∀ (ix1 : Int32) (iM : Mem), x = .inl (ix1, iM) → T RX9 cX9_digest 3 (some .long) 1 7 0 0 false Po 101 [aR (some 0), aI ix1, aU] [] LAYM rfm iM 0 0) (hE0 : ∀ (er : Int64) (eM : Mem), x = .inr (er, eM) → Po (vJ er) LAYM rfm eM) : T RX9 cX9_digest 3 (some .long) 1 7 0 0 false Po 101 [aR (some 0), aI x1, aU] [] LAYM rfm M 0 0 := by
  unfold X9_digest_L101 at h
  simp only at h
  refine T_iload_n dX9_digest_101 rfl ?_
  refine T_iconst dX9_digest_102 ic_4 ?_
  refine T_icmp_ge (tgt := 168) dX9_digest_103 (by decide) (fun hc => ?_) (fun hc => ?_)
  · have h := it_pos hc h
    refine T_aload_n dX9_digest_168 rfl ?_
    refine T_getJ dX9_digest_169 clOK_X9 fl_X9_338 lyM_0 rfl ?_
    obtain rfl := sm1 h
    exact T_lret dX9_digest_172 (hE0 _ _ rfl)
  · have h := it_neg hc h
    refine T_aload_n dX9_digest_106 rfl ?_
    refine T_aload_n dX9_digest_107 rfl ?_
    refine T_getR dX9_digest_108 clOK_X9 fl_X9_26 lyM_0 rfl rfl ?_
    refine T_iload_n dX9_digest_111 rfl ?_
    obtain ⟨hi_28, h⟩ := chk_some h
    refine T_iald dX9_digest_112 lyM_5 (inb_in hi_28) ?_
    refine T_if_ge (tgt := 120) dX9_digest_113 (by decide) (fun hc => ?_) (fun hc => ?_)
    · have h := it_pos hc h
      refine T_aload_n dX9_digest_120 rfl ?_
      refine T_getR dX9_digest_121 clOK_X9 fl_X9_26 lyM_0 rfl rfl ?_
      refine T_iload_n dX9_digest_124 rfl ?_
      obtain ⟨hi_29, h⟩ := chk_some h
      refine T_iald dX9_digest_125 lyM_5 (inb_in hi_29) ?_
      exact j_X9_digest_J126  M x1 (gI M 5 x1.toNatClampNeg)  _ h hI hE0
    · have h := it_neg hc h
      refine T_iconst dX9_digest_116 ic_m1 ?_
      refine T_goto (tgt := 126) dX9_digest_117 (by decide) ?_
      exact j_X9_digest_J126  M x1 (-1)  _ h hI hE0
set_option maxRecDepth 100000 in
set_option maxHeartbeats 4000000 in
theorem l_X9_digest_L101 {Po : Po_} (er : Int64) (eM : Mem) : ∀ (k : Nat) (x1 : Int32) (M : Mem), loop (X9_digest_L101 ) k (x1, M) = some (er, eM) → (Po (vJ er) LAYM rfm eM) → T RX9 cX9_digest 3 (some .long) 1 7 0 0 false Po 101 [aR (some 0), aI x1, aU] [] LAYM rfm M 0 0 := by
  intro k
  induction k with
  | zero => intro x1 M h; cases h
  | succ k ih =>
    intro x1 M h hE
    obtain ⟨x, hx, hx1, hx2⟩ := loop_succ h
    exact s_X9_digest_L101    x1 M x hx (fun q0 q1 e => ih q0 q1 (hx1 _ e) hE) (fun q0 q1 e => by cases hx2 _ e; exact hE)
set_option maxRecDepth 100000 in
set_option maxHeartbeats 4000000 in
theorem m_X9_digest (M : Mem) (r : Int64) (M' : Mem) (h : F_X9_digest M = some (r, M')) : Cal yX9_digest cX9_digest 3 (some .long) 1 7 0 0 false [vR (some 0)] LAYM rfm M (eqp (vJ r) LAYM rfm M') := by
  refine Cal.of (by decide +kernel) (Nat.le_of_ble_eq_true rfl) (fun h => by cases h) ?_
  unfold F_X9_digest at h
  show T RX9 cX9_digest 3 (some .long) 1 7 0 0 false (eqp (vJ r) LAYM rfm M') 0 [aR (some 0), aU, aU] [] LAYM rfm M 0 0
  refine T_aload_n dX9_digest_0 rfl ?_
  refine T_ldc2 dX9_digest_1 kl_X9_344 ?_
  obtain ⟨M_1, eM_2, h⟩ := lett_some h
  refine T_putJ dX9_digest_4 clOK_X9 fl_X9_338 (Or.inl rfl) lyM_0 rfl rfl eM_2 ?_
  refine T_iconst dX9_digest_7 ic_0 ?_
  refine T_istore_n (i := 1) (L' := [aR (some 0), aI 0, aU]) dX9_digest_8 rfl (Nat.le_of_ble_eq_true rfl) rfl ?_
  obtain ⟨M_10, hl, h⟩ := bd1_some h
  refine l_X9_digest_L9    _ FU 0 M_1 hl ?_
  refine T_aload_n dX9_digest_30 rfl ?_
  obtain ⟨M_11, hc_12, h⟩ := bd1_some h
  refine T_cvv (as := []) dX9_digest_31 cw_X9_mixGround ml_X9_346 mi_X9_mixGround se_X9_mixGround lyM_0 rfl (by decide) rfl (Nat.le_of_ble_eq_true rfl) (Nat.le_of_ble_eq_true rfl) (m_X9_mixGround  M_10  _ hc_12) ?_
  refine T_iconst dX9_digest_34 ic_0 ?_
  refine T_istore_n (i := 1) (L' := [aR (some 0), aI 0, aU]) dX9_digest_35 rfl (Nat.le_of_ble_eq_true rfl) rfl ?_
  obtain ⟨M_27, hl, h⟩ := bd1_some h
  refine l_X9_digest_L36    _ FU 0 M_11 hl ?_
  refine T_iconst dX9_digest_99 ic_0 ?_
  refine T_istore_n (i := 1) (L' := [aR (some 0), aI 0, aU]) dX9_digest_100 rfl (Nat.le_of_ble_eq_true rfl) rfl ?_
  exact l_X9_digest_L101    _ _ FU 0 M_27 h ⟨rfl, rfl, rfl, rfl⟩
