def X8_digest_L6 (lw : Nat → Option Nat) (M : Mem) : Int64 × Int32 → Option ((Int64 × Int32) ⊕ (Int64))
  | (x1, x3) =>
    if (nI 10) ≤ x3 then some (.inr x1)
    else bd1 (F_X8_counted lw M x3) fun r_1 => lett ((31 * x1) + r_1.toInt64) fun x_3 => lett (x3 + 1) fun x_5 => some (.inl (x_3, x_5))
def X8_digest_L47 (lw : Nat → Option Nat) (M : Mem) (x3 : Int32) : Int64 × Int32 → Option ((Int64 × Int32) ⊕ (Int64))
  | (x1, x4) =>
    if (nI 3) ≤ x4 then some (.inr x1)
    else bd1 (F_X8_cellTold M x3 x4) fun r_8 => lett ((31 * x1) + r_8.toInt64) fun x_10 => lett (x4 + 1) fun x_12 => some (.inl (x_10, x_12))
def X8_digest_L33 (lw : Nat → Option Nat) (M : Mem) : Int64 × Int32 → Option ((Int64 × Int32) ⊕ (Int64))
  | (x1, x3) =>
    if (gI M 7 0) ≤ x3 then some (.inr x1)
    else bd1 (loop (X8_digest_L47 lw M x3) FU (x1, 0)) fun x_14 => lett (x3 + 1) fun x_15 => some (.inl (x_14, x_15))
def X8_digest_L82 (lw : Nat → Option Nat) (M : Mem) : Int64 × Int32 → Option ((Int64 × Int32) ⊕ (Int64))
  | (x1, x3) =>
    if (gI M 0 8) ≤ x3 then some (.inr x1)
    else bd1 (F_X8_law lw M x3) fun r_18 => lett ((31 * x1) + r_18.toInt64) fun x_20 => lett (x3 + 1) fun x_22 => some (.inl (x_20, x_22))
def X8_digest_L111 (lw : Nat → Option Nat) (M : Mem) : Int64 × Int32 → Option ((Int64 × Int32) ⊕ (Int64))
  | (x1, x3) =>
    if (nI 3) ≤ x3 then some (.inr x1)
    else chk (inb x3 3 = true) (lett (finC 12 x3.toNatClampNeg) fun o_26 => oc o_26 none (fun q_28 => chk (isX1 q_28 = true) (bd1 (F_X1_digestOnto M q_28 x1) fun r_30 => lett (x3 + 1) fun x_32 => some (.inl (r_30, x_32)))))
def X8_digest_L139 (lw : Nat → Option Nat) (M : Mem) : Int64 × Int32 → Option ((Int64 × Int32) ⊕ (Int64))
  | (x1, x3) =>
    if (nI 6) ≤ x3 then some (.inr x1)
    else chk (inb x3 6 = true) (lett (finC 1 x3.toNatClampNeg) fun o_36 => oc o_36 none (fun q_38 => chk (isX5 q_38 = true) (bd1 (F_X5_digestOnto M q_38 x1) fun r_40 => lett (x3 + 1) fun x_42 => some (.inl (r_40, x_42)))))
def X8_digest_L167 (lw : Nat → Option Nat) (M : Mem) : Int64 × Int32 → Option ((Int64 × Int32) ⊕ (Int64))
  | (x1, x3) =>
    if (nI 4) ≤ x3 then some (.inr x1)
    else chk (inb x3 4 = true) (lett (finC 2 x3.toNatClampNeg) fun o_46 => oc o_46 none (fun q_48 => chk (isX5 q_48 = true) (bd1 (F_X5_digestOnto M q_48 x1) fun r_50 => lett (x3 + 1) fun x_52 => some (.inl (r_50, x_52)))))
def F_X8_digest (lw : Nat → Option Nat) (M : Mem) : Option (Int64) :=
 bd1 (loop (X8_digest_L6 lw M) FU (17, 0)) fun x_7 => bd1 (loop (X8_digest_L33 lw M) FU (x_7, 0)) fun x_17 => bd1 (loop (X8_digest_L82 lw M) FU (x_17, 0)) fun x_24 => bd1 (loop (X8_digest_L111 lw M) FU (x_24, 0)) fun x_34 => bd1 (loop (X8_digest_L139 lw M) FU (x_34, 0)) fun x_44 => loop (X8_digest_L167 lw M) FU (x_44, 0)
set_option maxRecDepth 100000 in
set_option maxHeartbeats 4000000 in
theorem s_X8_digest_L6 (tl : Option Nat) (tt : Option Nat) (lw : Nat → Option Nat) (M : Mem) (x1 : Int64) (x3 : Int32) {Po : Po_} (x : (Int64 × Int32) ⊕ (Int64)) (h : X8_digest_L6 lw M (x1, x3) = some x) (hI : ∀ (ix1 : Int64) (ix3 : Int32), x = .inl (ix1, ix3) → T RX8 cX8_digest 5 (some .long) 1 5 0 0 false Po 6 [aR (some 0), aJ ix1, aU, aI ix3, aU] [] LAYC (rfs lw tl tt) M 0 0) (hE0 : ∀ (e1 : Int64), x = .inr e1 → T RX8 cX8_digest 5 (some .long) 1 5 0 0 false Po 31 [aR (some 0), aJ e1, aU, aU, aU] [] LAYC (rfs lw tl tt) M 0 0) : T RX8 cX8_digest 5 (some .long) 1 5 0 0 false Po 6 [aR (some 0), aJ x1, aU, aI x3, aU] [] LAYC (rfs lw tl tt) M 0 0 := by
  unfold X8_digest_L6 at h
  simp only at h
  refine T_iload_n dX8_digest_6 rfl ?_
  refine T_bipush dX8_digest_7 bp_10 ?_
  refine T_icmp_ge (tgt := 31) dX8_digest_9 (by decide) (fun hc => ?_) (fun hc => ?_)
  · have h := it_pos hc h
    obtain rfl := sm1 h
    refine T_mask [true, true, true, false, true] rfl ?_
    exact hE0 _ rfl
  · have h := it_neg hc h
    refine T_ldc2 dX8_digest_12 kl_X8_350 ?_
    refine T_lload_n dX8_digest_15 rfl ?_
    refine T_lmul dX8_digest_16 ?_
    refine T_aload_n dX8_digest_17 rfl ?_
    refine T_iload_n dX8_digest_18 rfl ?_
    obtain ⟨r_1, hc_2, h⟩ := bd1_some h
    refine T_cvi (as := [vI x3]) dX8_digest_19 cw_X8_counted ml_X8_342 mi_X8_counted se_X8_counted lyC_0 rfl (by decide) rfl (Nat.le_of_ble_eq_true rfl) (Nat.le_of_ble_eq_true rfl) (m_X8_counted tl tt lw M x3  _ hc_2) ?_
    refine T_i2l dX8_digest_22 ?_
    refine T_ladd dX8_digest_23 ?_
    obtain ⟨x_3, ex_4, h⟩ := lett_some h
    refine T_topJ ex_4 ?_
    refine T_lstore_n (i := 1) (L' := [aR (some 0), aJ x_3, aU, aI x3, aU]) dX8_digest_24 rfl (Nat.le_of_ble_eq_true rfl) rfl ?_
    obtain ⟨x_5, ex_6, h⟩ := lett_some h
    refine T_iinc (L' := [aR (some 0), aJ x_3, aU, aI x_5, aU]) dX8_digest_25 rfl (ic_inc ic_1 ex_6) (Nat.le_of_ble_eq_true rfl) rfl ?_
    refine T_goto (tgt := 6) dX8_digest_28 (by decide) ?_
    obtain rfl := sm1 h
    exact hI _ _ rfl
set_option maxRecDepth 100000 in
set_option maxHeartbeats 4000000 in
theorem l_X8_digest_L6 (tl : Option Nat) (tt : Option Nat) (lw : Nat → Option Nat) (M : Mem) {Po : Po_} (e1 : Int64) : ∀ (k : Nat) (x1 : Int64) (x3 : Int32), loop (X8_digest_L6 lw M) k (x1, x3) = some e1 → (T RX8 cX8_digest 5 (some .long) 1 5 0 0 false Po 31 [aR (some 0), aJ e1, aU, aU, aU] [] LAYC (rfs lw tl tt) M 0 0) → T RX8 cX8_digest 5 (some .long) 1 5 0 0 false Po 6 [aR (some 0), aJ x1, aU, aI x3, aU] [] LAYC (rfs lw tl tt) M 0 0 := by
  intro k
  induction k with
  | zero => intro x1 x3 h; cases h
  | succ k ih =>
    intro x1 x3 h hE
    obtain ⟨x, hx, hx1, hx2⟩ := loop_succ h
    exact s_X8_digest_L6  tl tt lw M  x1 x3 x hx (fun q0 q1 e => ih q0 q1 (hx1 _ e) hE) (fun q0 e => by cases hx2 _ e; exact hE)
set_option maxRecDepth 100000 in
set_option maxHeartbeats 4000000 in
theorem s_X8_digest_L47 (tl : Option Nat) (tt : Option Nat) (lw : Nat → Option Nat) (M : Mem) (x3 : Int32) (x1 : Int64) (x4 : Int32) {Po : Po_} (x : (Int64 × Int32) ⊕ (Int64)) (h : X8_digest_L47 lw M x3 (x1, x4) = some x) (hI : ∀ (ix1 : Int64) (ix4 : Int32), x = .inl (ix1, ix4) → T RX8 cX8_digest 5 (some .long) 1 5 0 0 false Po 47 [aR (some 0), aJ ix1, aU, aI x3, aI ix4] [] LAYC (rfs lw tl tt) M 0 0) (hE0 : ∀ (e1 : Int64), x = .inr e1 → T RX8 cX8_digest 5 (some .long) 1 5 0 0 false Po 74 [aR (some 0), aJ e1, aU, aI x3, aU] [] LAYC (rfs lw tl tt) M 0 0) : T RX8 cX8_digest 5 (some .long) 1 5 0 0 false Po 47 [aR (some 0), aJ x1, aU, aI x3, aI x4] [] LAYC (rfs lw tl tt) M 0 0 := by
  unfold X8_digest_L47 at h
  simp only at h
  refine T_iload dX8_digest_47 rfl ?_
  refine T_iconst dX8_digest_49 ic_3 ?_
  refine T_icmp_ge (tgt := 74) dX8_digest_50 (by decide) (fun hc => ?_) (fun hc => ?_)
  · have h := it_pos hc h
    obtain rfl := sm1 h
    refine T_mask [true, true, true, true, false] rfl ?_
    exact hE0 _ rfl
  · have h := it_neg hc h
    refine T_ldc2 dX8_digest_53 kl_X8_350 ?_
    refine T_lload_n dX8_digest_56 rfl ?_
    refine T_lmul dX8_digest_57 ?_
    refine T_aload_n dX8_digest_58 rfl ?_
    refine T_iload_n dX8_digest_59 rfl ?_
    refine T_iload dX8_digest_60 rfl ?_
    obtain ⟨r_8, hc_9, h⟩ := bd1_some h
    refine T_cvi (as := [vI x3, vI x4]) dX8_digest_62 cw_X8_cellTold ml_X8_171 mi_X8_cellTold se_X8_cellTold lyC_0 rfl (by decide) rfl (Nat.le_of_ble_eq_true rfl) (Nat.le_of_ble_eq_true rfl) (m_X8_cellTold lw tl tt M x3 x4  _ hc_9) ?_
    refine T_i2l dX8_digest_65 ?_
    refine T_ladd dX8_digest_66 ?_
    obtain ⟨x_10, ex_11, h⟩ := lett_some h
    refine T_topJ ex_11 ?_
    refine T_lstore_n (i := 1) (L' := [aR (some 0), aJ x_10, aU, aI x3, aI x4]) dX8_digest_67 rfl (Nat.le_of_ble_eq_true rfl) rfl ?_
    obtain ⟨x_12, ex_13, h⟩ := lett_some h
    refine T_iinc (L' := [aR (some 0), aJ x_10, aU, aI x3, aI x_12]) dX8_digest_68 rfl (ic_inc ic_1 ex_13) (Nat.le_of_ble_eq_true rfl) rfl ?_
    refine T_goto (tgt := 47) dX8_digest_71 (by decide) ?_
    obtain rfl := sm1 h
    exact hI _ _ rfl
set_option maxRecDepth 100000 in
set_option maxHeartbeats 4000000 in
theorem l_X8_digest_L47 (tl : Option Nat) (tt : Option Nat) (lw : Nat → Option Nat) (M : Mem) (x3 : Int32) {Po : Po_} (e1 : Int64) : ∀ (k : Nat) (x1 : Int64) (x4 : Int32), loop (X8_digest_L47 lw M x3) k (x1, x4) = some e1 → (T RX8 cX8_digest 5 (some .long) 1 5 0 0 false Po 74 [aR (some 0), aJ e1, aU, aI x3, aU] [] LAYC (rfs lw tl tt) M 0 0) → T RX8 cX8_digest 5 (some .long) 1 5 0 0 false Po 47 [aR (some 0), aJ x1, aU, aI x3, aI x4] [] LAYC (rfs lw tl tt) M 0 0 := by
  intro k
  induction k with
  | zero => intro x1 x4 h; cases h
  | succ k ih =>
    intro x1 x4 h hE
    obtain ⟨x, hx, hx1, hx2⟩ := loop_succ h
    exact s_X8_digest_L47  tl tt lw M x3  x1 x4 x hx (fun q0 q1 e => ih q0 q1 (hx1 _ e) hE) (fun q0 e => by cases hx2 _ e; exact hE)
set_option maxRecDepth 100000 in
set_option maxHeartbeats 4000000 in
theorem s_X8_digest_L33 (tl : Option Nat) (tt : Option Nat) (lw : Nat → Option Nat) (M : Mem) (x1 : Int64) (x3 : Int32) {Po : Po_} (x : (Int64 × Int32) ⊕ (Int64)) (h : X8_digest_L33 lw M (x1, x3) = some x) (hI : ∀ (ix1 : Int64) (ix3 : Int32), x = .inl (ix1, ix3) → T RX8 cX8_digest 5 (some .long) 1 5 0 0 false Po 33 [aR (some 0), aJ ix1, aU, aI ix3, aU] [] LAYC (rfs lw tl tt) M 0 0) (hE0 : ∀ (e1 : Int64), x = .inr e1 → T RX8 cX8_digest 5 (some .long) 1 5 0 0 false Po 80 [aR (some 0), aJ e1, aU, aU, aU] [] LAYC (rfs lw tl tt) M 0 0) : T RX8 cX8_digest 5 (some .long) 1 5 0 0 false Po 33 [aR (some 0), aJ x1, aU, aI x3, aU] [] LAYC (rfs lw tl tt) M 0 0 := by
  unfold X8_digest_L33 at h
  simp only at h
  refine T_iload_n dX8_digest_33 rfl ?_
  refine T_aload_n dX8_digest_34 rfl ?_
  refine T_getR dX8_digest_35 clOK_X8 fl_X8_28 lyC_0 rfl rfl ?_
  refine T_getI dX8_digest_38 clOK_X2 fl_X8_164 lyC_7 rfl ?_
  refine T_icmp_ge (tgt := 80) dX8_digest_41 (by decide) (fun hc => ?_) (fun hc => ?_)
  · have h := it_pos hc h
    obtain rfl := sm1 h
    refine T_mask [true, true, true, false, true] rfl ?_
    exact hE0 _ rfl
  · have h := it_neg hc h
    refine T_iconst dX8_digest_44 ic_0 ?_
    refine T_istore (i := 4) (L' := [aR (some 0), aJ x1, aU, aI x3, aI 0]) dX8_digest_45 (Nat.le_of_ble_eq_true rfl) rfl ?_
    obtain ⟨x_14, hl, h⟩ := bd1_some h
    refine l_X8_digest_L47  tl tt lw M x3  _ FU x1 0 hl ?_
    obtain ⟨x_15, ex_16, h⟩ := lett_some h
    refine T_iinc (L' := [aR (some 0), aJ x_14, aU, aI x_15, aU]) dX8_digest_74 rfl (ic_inc ic_1 ex_16) (Nat.le_of_ble_eq_true rfl) rfl ?_
    refine T_goto (tgt := 33) dX8_digest_77 (by decide) ?_
    obtain rfl := sm1 h
    exact hI _ _ rfl
set_option maxRecDepth 100000 in
set_option maxHeartbeats 4000000 in
theorem l_X8_digest_L33 (tl : Option Nat) (tt : Option Nat) (lw : Nat → Option Nat) (M : Mem) {Po : Po_} (e1 : Int64) : ∀ (k : Nat) (x1 : Int64) (x3 : Int32), loop (X8_digest_L33 lw M) k (x1, x3) = some e1 → (T RX8 cX8_digest 5 (some .long) 1 5 0 0 false Po 80 [aR (some 0), aJ e1, aU, aU, aU] [] LAYC (rfs lw tl tt) M 0 0) → T RX8 cX8_digest 5 (some .long) 1 5 0 0 false Po 33 [aR (some 0), aJ x1, aU, aI x3, aU] [] LAYC (rfs lw tl tt) M 0 0 := by
  intro k
  induction k with
  | zero => intro x1 x3 h; cases h
  | succ k ih =>
    intro x1 x3 h hE
    obtain ⟨x, hx, hx1, hx2⟩ := loop_succ h
    exact s_X8_digest_L33  tl tt lw M  x1 x3 x hx (fun q0 q1 e => ih q0 q1 (hx1 _ e) hE) (fun q0 e => by cases hx2 _ e; exact hE)
set_option maxRecDepth 100000 in
set_option maxHeartbeats 4000000 in
theorem s_X8_digest_L82 (tl : Option Nat) (tt : Option Nat) (lw : Nat → Option Nat) (M : Mem) (x1 : Int64) (x3 : Int32) {Po : Po_} (x : (Int64 × Int32) ⊕ (Int64)) (h : X8_digest_L82 lw M (x1, x3) = some x) (hI : ∀ (ix1 : Int64) (ix3 : Int32), x = .inl (ix1, ix3) → T RX8 cX8_digest 5 (some .long) 1 5 0 0 false Po 82 [aR (some 0), aJ ix1, aU, aI ix3, aU] [] LAYC (rfs lw tl tt) M 0 0) (hE0 : ∀ (e1 : Int64), x = .inr e1 → T RX8 cX8_digest 5 (some .long) 1 5 0 0 false Po 109 [aR (some 0), aJ e1, aU, aU, aU] [] LAYC (rfs lw tl tt) M 0 0) : T RX8 cX8_digest 5 (some .long) 1 5 0 0 false Po 82 [aR (some 0), aJ x1, aU, aI x3, aU] [] LAYC (rfs lw tl tt) M 0 0 := by
  unfold X8_digest_L82 at h
  simp only at h
  refine T_iload_n dX8_digest_82 rfl ?_
  refine T_aload_n dX8_digest_83 rfl ?_
  refine T_getI dX8_digest_84 clOK_X8 fl_X8_246 lyC_0 rfl ?_
  refine T_icmp_ge (tgt := 109) dX8_digest_87 (by decide) (fun hc => ?_) (fun hc => ?_)
  · have h := it_pos hc h
    obtain rfl := sm1 h
    refine T_mask [true, true, true, false, true] rfl ?_
    exact hE0 _ rfl
  · have h := it_neg hc h
    refine T_ldc2 dX8_digest_90 kl_X8_350 ?_
    refine T_lload_n dX8_digest_93 rfl ?_
    refine T_lmul dX8_digest_94 ?_
    refine T_aload_n dX8_digest_95 rfl ?_
    refine T_iload_n dX8_digest_96 rfl ?_
    obtain ⟨r_18, hc_19, h⟩ := bd1_some h
    refine T_cvi (as := [vI x3]) dX8_digest_97 cw_X8_law ml_X8_352 mi_X8_law se_X8_law lyC_0 rfl (by decide) rfl (Nat.le_of_ble_eq_true rfl) (Nat.le_of_ble_eq_true rfl) (m_X8_law tl tt lw M x3  _ hc_19) ?_
    refine T_i2l dX8_digest_100 ?_
    refine T_ladd dX8_digest_101 ?_
    obtain ⟨x_20, ex_21, h⟩ := lett_some h
    refine T_topJ ex_21 ?_
    refine T_lstore_n (i := 1) (L' := [aR (some 0), aJ x_20, aU, aI x3, aU]) dX8_digest_102 rfl (Nat.le_of_ble_eq_true rfl) rfl ?_
    obtain ⟨x_22, ex_23, h⟩ := lett_some h
    refine T_iinc (L' := [aR (some 0), aJ x_20, aU, aI x_22, aU]) dX8_digest_103 rfl (ic_inc ic_1 ex_23) (Nat.le_of_ble_eq_true rfl) rfl ?_
    refine T_goto (tgt := 82) dX8_digest_106 (by decide) ?_
    obtain rfl := sm1 h
    exact hI _ _ rfl
set_option maxRecDepth 100000 in
set_option maxHeartbeats 4000000 in
theorem l_X8_digest_L82 (tl : Option Nat) (tt : Option Nat) (lw : Nat → Option Nat) (M : Mem) {Po : Po_} (e1 : Int64) : ∀ (k : Nat) (x1 : Int64) (x3 : Int32), loop (X8_digest_L82 lw M) k (x1, x3) = some e1 → (T RX8 cX8_digest 5 (some .long) 1 5 0 0 false Po 109 [aR (some 0), aJ e1, aU, aU, aU] [] LAYC (rfs lw tl tt) M 0 0) → T RX8 cX8_digest 5 (some .long) 1 5 0 0 false Po 82 [aR (some 0), aJ x1, aU, aI x3, aU] [] LAYC (rfs lw tl tt) M 0 0 := by
  intro k
  induction k with
  | zero => intro x1 x3 h; cases h
  | succ k ih =>
    intro x1 x3 h hE
    obtain ⟨x, hx, hx1, hx2⟩ := loop_succ h
    exact s_X8_digest_L82  tl tt lw M  x1 x3 x hx (fun q0 q1 e => ih q0 q1 (hx1 _ e) hE) (fun q0 e => by cases hx2 _ e; exact hE)
set_option maxRecDepth 100000 in
set_option maxHeartbeats 4000000 in
theorem s_X8_digest_L111 (tl : Option Nat) (tt : Option Nat) (lw : Nat → Option Nat) (M : Mem) (x1 : Int64) (x3 : Int32) {Po : Po_} (x : (Int64 × Int32) ⊕ (Int64)) (h : X8_digest_L111 lw M (x1, x3) = some x) (hI : ∀ (ix1 : Int64) (ix3 : Int32), x = .inl (ix1, ix3) → T RX8 cX8_digest 5 (some .long) 1 5 0 0 false Po 111 [aR (some 0), aJ ix1, aU, aI ix3, aU] [] LAYC (rfs lw tl tt) M 0 0) (hE0 : ∀ (e1 : Int64), x = .inr e1 → T RX8 cX8_digest 5 (some .long) 1 5 0 0 false Po 137 [aR (some 0), aJ e1, aU, aU, aU] [] LAYC (rfs lw tl tt) M 0 0) : T RX8 cX8_digest 5 (some .long) 1 5 0 0 false Po 111 [aR (some 0), aJ x1, aU, aI x3, aU] [] LAYC (rfs lw tl tt) M 0 0 := by
  unfold X8_digest_L111 at h
  simp only at h
  refine T_iload_n dX8_digest_111 rfl ?_
  refine T_aload_n dX8_digest_112 rfl ?_
  refine T_getR dX8_digest_113 clOK_X8 fl_X8_41 lyC_0 rfl rfl ?_
  refine T_alen dX8_digest_116 lyC_12 (Or.inr (Or.inr (Or.inl rfl))) rfl ?_
  refine T_icmp_ge (tgt := 137) dX8_digest_117 (by decide) (fun hc => ?_) (fun hc => ?_)
  · have h := it_pos hc h
    obtain rfl := sm1 h
    refine T_mask [true, true, true, false, true] rfl ?_
    exact hE0 _ rfl
  · have h := it_neg hc h
    refine T_aload_n dX8_digest_120 rfl ?_
    refine T_getR dX8_digest_121 clOK_X8 fl_X8_41 lyC_0 rfl rfl ?_
    refine T_iload_n dX8_digest_124 rfl ?_
    obtain ⟨hi_25, h⟩ := chk_some h
    obtain ⟨o_26, eo_27, h⟩ := lett_some h
    refine T_aald dX8_digest_125 lyC_12 (Or.inl rfl) (inb_in hi_25) (Eq.symm eo_27) ?_
    refine T_lload_n dX8_digest_126 rfl ?_
    cases o_26 with
    | none => exact absurd (oc_none h) (fun e => by cases e)
    | some q_28 =>
      have h := oc_some h
      obtain ⟨hf_29, h⟩ := chk_some h
      obtain ⟨r_30, hc_31, h⟩ := bd1_some h
      refine T_cvl (as := [vJ x1]) dX8_digest_127 cw_X1_digestOnto ml_X8_355 mi_X1_digestOnto se_X1_digestOnto (lyX1 hf_29) rfl (by decide) rfl (Nat.le_of_ble_eq_true rfl) (Nat.le_of_ble_eq_true rfl) (m_X1_digestOnto lw tl tt M q_28 x1 hf_29 _ hc_31) ?_
      refine T_lstore_n (i := 1) (L' := [aR (some 0), aJ r_30, aU, aI x3, aU]) dX8_digest_130 rfl (Nat.le_of_ble_eq_true rfl) rfl ?_
      obtain ⟨x_32, ex_33, h⟩ := lett_some h
      refine T_iinc (L' := [aR (some 0), aJ r_30, aU, aI x_32, aU]) dX8_digest_131 rfl (ic_inc ic_1 ex_33) (Nat.le_of_ble_eq_true rfl) rfl ?_
      refine T_goto (tgt := 111) dX8_digest_134 (by decide) ?_
      obtain rfl := sm1 h
      exact hI _ _ rfl
set_option maxRecDepth 100000 in
set_option maxHeartbeats 4000000 in
theorem l_X8_digest_L111 (tl : Option Nat) (tt : Option Nat) (lw : Nat → Option Nat) (M : Mem) {Po : Po_} (e1 : Int64) : ∀ (k : Nat) (x1 : Int64) (x3 : Int32), loop (X8_digest_L111 lw M) k (x1, x3) = some e1 → (T RX8 cX8_digest 5 (some .long) 1 5 0 0 false Po 137 [aR (some 0), aJ e1, aU, aU, aU] [] LAYC (rfs lw tl tt) M 0 0) → T RX8 cX8_digest 5 (some .long) 1 5 0 0 false Po 111 [aR (some 0), aJ x1, aU, aI x3, aU] [] LAYC (rfs lw tl tt) M 0 0 := by
  intro k
  induction k with
  | zero => intro x1 x3 h; cases h
  | succ k ih =>
    intro x1 x3 h hE
    obtain ⟨x, hx, hx1, hx2⟩ := loop_succ h
    exact s_X8_digest_L111  tl tt lw M  x1 x3 x hx (fun q0 q1 e => ih q0 q1 (hx1 _ e) hE) (fun q0 e => by cases hx2 _ e; exact hE)
set_option maxRecDepth 100000 in
set_option maxHeartbeats 4000000 in
theorem s_X8_digest_L139 (tl : Option Nat) (tt : Option Nat) (lw : Nat → Option Nat) (M : Mem) (x1 : Int64) (x3 : Int32) {Po : Po_} (x : (Int64 × Int32) ⊕ (Int64)) (h : X8_digest_L139 lw M (x1, x3) = some x) (hI : ∀ (ix1 : Int64) (ix3 : Int32), x = .inl (ix1, ix3) → T RX8 cX8_digest 5 (some .long) 1 5 0 0 false Po 139 [aR (some 0), aJ ix1, aU, aI ix3, aU] [] LAYC (rfs lw tl tt) M 0 0) (hE0 : ∀ (e1 : Int64), x = .inr e1 → T RX8 cX8_digest 5 (some .long) 1 5 0 0 false Po 165 [aR (some 0), aJ e1, aU, aU, aU] [] LAYC (rfs lw tl tt) M 0 0) : T RX8 cX8_digest 5 (some .long) 1 5 0 0 false Po 139 [aR (some 0), aJ x1, aU, aI x3, aU] [] LAYC (rfs lw tl tt) M 0 0 := by
  unfold X8_digest_L139 at h
  simp only at h
  refine T_iload_n dX8_digest_139 rfl ?_
  refine T_aload_n dX8_digest_140 rfl ?_
  refine T_getR dX8_digest_141 clOK_X8 fl_X8_11 lyC_0 rfl rfl ?_
  refine T_alen dX8_digest_144 lyC_1 (Or.inr (Or.inr (Or.inr (Or.inr rfl)))) rfl ?_
  refine T_icmp_ge (tgt := 165) dX8_digest_145 (by decide) (fun hc => ?_) (fun hc => ?_)
  · have h := it_pos hc h
    obtain rfl := sm1 h
    refine T_mask [true, true, true, false, true] rfl ?_
    exact hE0 _ rfl
  · have h := it_neg hc h
    refine T_aload_n dX8_digest_148 rfl ?_
    refine T_getR dX8_digest_149 clOK_X8 fl_X8_11 lyC_0 rfl rfl ?_
    refine T_iload_n dX8_digest_152 rfl ?_
    obtain ⟨hi_35, h⟩ := chk_some h
    obtain ⟨o_36, eo_37, h⟩ := lett_some h
    refine T_aald dX8_digest_153 lyC_1 (Or.inr (Or.inr rfl)) (inb_in hi_35) (Eq.symm eo_37) ?_
    refine T_lload_n dX8_digest_154 rfl ?_
    cases o_36 with
    | none => exact absurd (oc_none h) (fun e => by cases e)
    | some q_38 =>
      have h := oc_some h
      obtain ⟨hf_39, h⟩ := chk_some h
      obtain ⟨r_40, hc_41, h⟩ := bd1_some h
      refine T_cvl (as := [vJ x1]) dX8_digest_155 cw_X5_digestOnto ml_X8_359 mi_X5_digestOnto se_X5_digestOnto (lyX5 hf_39) rfl (by decide) rfl (Nat.le_of_ble_eq_true rfl) (Nat.le_of_ble_eq_true rfl) (m_X5_digestOnto lw tl tt M q_38 x1 hf_39 _ hc_41) ?_
      refine T_lstore_n (i := 1) (L' := [aR (some 0), aJ r_40, aU, aI x3, aU]) dX8_digest_158 rfl (Nat.le_of_ble_eq_true rfl) rfl ?_
      obtain ⟨x_42, ex_43, h⟩ := lett_some h
      refine T_iinc (L' := [aR (some 0), aJ r_40, aU, aI x_42, aU]) dX8_digest_159 rfl (ic_inc ic_1 ex_43) (Nat.le_of_ble_eq_true rfl) rfl ?_
      refine T_goto (tgt := 139) dX8_digest_162 (by decide) ?_
      obtain rfl := sm1 h
      exact hI _ _ rfl
set_option maxRecDepth 100000 in
set_option maxHeartbeats 4000000 in
theorem l_X8_digest_L139 (tl : Option Nat) (tt : Option Nat) (lw : Nat → Option Nat) (M : Mem) {Po : Po_} (e1 : Int64) : ∀ (k : Nat) (x1 : Int64) (x3 : Int32), loop (X8_digest_L139 lw M) k (x1, x3) = some e1 → (T RX8 cX8_digest 5 (some .long) 1 5 0 0 false Po 165 [aR (some 0), aJ e1, aU, aU, aU] [] LAYC (rfs lw tl tt) M 0 0) → T RX8 cX8_digest 5 (some .long) 1 5 0 0 false Po 139 [aR (some 0), aJ x1, aU, aI x3, aU] [] LAYC (rfs lw tl tt) M 0 0 := by
  intro k
  induction k with
  | zero => intro x1 x3 h; cases h
  | succ k ih =>
    intro x1 x3 h hE
    obtain ⟨x, hx, hx1, hx2⟩ := loop_succ h
    exact s_X8_digest_L139  tl tt lw M  x1 x3 x hx (fun q0 q1 e => ih q0 q1 (hx1 _ e) hE) (fun q0 e => by cases hx2 _ e; exact hE)
set_option maxRecDepth 100000 in
set_option maxHeartbeats 4000000 in
theorem s_X8_digest_L167 (tl : Option Nat) (tt : Option Nat) (lw : Nat → Option Nat) (M : Mem) (x1 : Int64) (x3 : Int32) {Po : Po_} (x : (Int64 × Int32) ⊕ (Int64)) (h : X8_digest_L167 lw M (x1, x3) = some x) (hI : ∀ (ix1 : Int64) (ix3 : Int32), x = .inl (ix1, ix3) → T RX8 cX8_digest 5 (some .long) 1 5 0 0 false Po 167 [aR (some 0), aJ ix1, aU, aI ix3, aU] [] LAYC (rfs lw tl tt) M 0 0) (hE0 : ∀ (er : Int64), x = .inr er → Po (vJ er) LAYC (rfs lw tl tt) M) : T RX8 cX8_digest 5 (some .long) 1 5 0 0 false Po 167 [aR (some 0), aJ x1, aU, aI x3, aU] [] LAYC (rfs lw tl tt) M 0 0 := by
  unfold X8_digest_L167 at h
  simp only at h
  refine T_iload_n dX8_digest_167 rfl ?_
  refine T_aload_n dX8_digest_168 rfl ?_
  refine T_getR dX8_digest_169 clOK_X8 fl_X8_15 lyC_0 rfl rfl ?_
  refine T_alen dX8_digest_172 lyC_2 (Or.inr (Or.inr (Or.inr (Or.inr rfl)))) rfl ?_
  refine T_icmp_ge (tgt := 193) dX8_digest_173 (by decide) (fun hc => ?_) (fun hc => ?_)
  · have h := it_pos hc h
    refine T_lload_n dX8_digest_193 rfl ?_
    obtain rfl := sm1 h
    exact T_lret dX8_digest_194 (hE0 _ rfl)
  · have h := it_neg hc h
    refine T_aload_n dX8_digest_176 rfl ?_
    refine T_getR dX8_digest_177 clOK_X8 fl_X8_15 lyC_0 rfl rfl ?_
    refine T_iload_n dX8_digest_180 rfl ?_
    obtain ⟨hi_45, h⟩ := chk_some h
    obtain ⟨o_46, eo_47, h⟩ := lett_some h
    refine T_aald dX8_digest_181 lyC_2 (Or.inr (Or.inr rfl)) (inb_in hi_45) (Eq.symm eo_47) ?_
    refine T_lload_n dX8_digest_182 rfl ?_
    cases o_46 with
    | none => exact absurd (oc_none h) (fun e => by cases e)
    | some q_48 =>
      have h := oc_some h
      obtain ⟨hf_49, h⟩ := chk_some h
      obtain ⟨r_50, hc_51, h⟩ := bd1_some h
      refine T_cvl (as := [vJ x1]) dX8_digest_183 cw_X5_digestOnto ml_X8_359 mi_X5_digestOnto se_X5_digestOnto (lyX5 hf_49) rfl (by decide) rfl (Nat.le_of_ble_eq_true rfl) (Nat.le_of_ble_eq_true rfl) (m_X5_digestOnto lw tl tt M q_48 x1 hf_49 _ hc_51) ?_
      refine T_lstore_n (i := 1) (L' := [aR (some 0), aJ r_50, aU, aI x3, aU]) dX8_digest_186 rfl (Nat.le_of_ble_eq_true rfl) rfl ?_
      obtain ⟨x_52, ex_53, h⟩ := lett_some h
      refine T_iinc (L' := [aR (some 0), aJ r_50, aU, aI x_52, aU]) dX8_digest_187 rfl (ic_inc ic_1 ex_53) (Nat.le_of_ble_eq_true rfl) rfl ?_
      refine T_goto (tgt := 167) dX8_digest_190 (by decide) ?_
      obtain rfl := sm1 h
      exact hI _ _ rfl
set_option maxRecDepth 100000 in
set_option maxHeartbeats 4000000 in
theorem l_X8_digest_L167 (tl : Option Nat) (tt : Option Nat) (lw : Nat → Option Nat) (M : Mem) {Po : Po_} (er : Int64) : ∀ (k : Nat) (x1 : Int64) (x3 : Int32), loop (X8_digest_L167 lw M) k (x1, x3) = some er → (Po (vJ er) LAYC (rfs lw tl tt) M) → T RX8 cX8_digest 5 (some .long) 1 5 0 0 false Po 167 [aR (some 0), aJ x1, aU, aI x3, aU] [] LAYC (rfs lw tl tt) M 0 0 := by
  intro k
  induction k with
  | zero => intro x1 x3 h; cases h
  | succ k ih =>
    intro x1 x3 h hE
    obtain ⟨x, hx, hx1, hx2⟩ := loop_succ h
    exact s_X8_digest_L167  tl tt lw M  x1 x3 x hx (fun q0 q1 e => ih q0 q1 (hx1 _ e) hE) (fun q0 e => by cases hx2 _ e; exact hE)
set_option maxRecDepth 100000 in
set_option maxHeartbeats 4000000 in
theorem m_X8_digest (tl : Option Nat) (tt : Option Nat) (lw : Nat → Option Nat) (M : Mem) (r : Int64) (h : F_X8_digest lw M = some r) : Cal yX8_digest cX8_digest 5 (some .long) 1 5 0 0 false [vR (some 0)] LAYC (rfs lw tl tt) M (eqp (vJ r) LAYC (rfs lw tl tt) M) := by
  refine Cal.of (by decide +kernel) (Nat.le_of_ble_eq_true rfl) (fun h => by cases h) ?_
  unfold F_X8_digest at h
  show T RX8 cX8_digest 5 (some .long) 1 5 0 0 false (eqp (vJ r) LAYC (rfs lw tl tt) M) 0 [aR (some 0), aU, aU, aU, aU] [] LAYC (rfs lw tl tt) M 0 0
  refine T_ldc2 dX8_digest_0 kl_X8_348 ?_
  refine T_lstore_n (i := 1) (L' := [aR (some 0), aJ 17, aU, aU, aU]) dX8_digest_3 rfl (Nat.le_of_ble_eq_true rfl) rfl ?_
  refine T_iconst dX8_digest_4 ic_0 ?_
  refine T_istore_n (i := 3) (L' := [aR (some 0), aJ 17, aU, aI 0, aU]) dX8_digest_5 rfl (Nat.le_of_ble_eq_true rfl) rfl ?_
  obtain ⟨x_7, hl, h⟩ := bd1_some h
  refine l_X8_digest_L6  tl tt lw M  _ FU 17 0 hl ?_
  refine T_iconst dX8_digest_31 ic_0 ?_
  refine T_istore_n (i := 3) (L' := [aR (some 0), aJ x_7, aU, aI 0, aU]) dX8_digest_32 rfl (Nat.le_of_ble_eq_true rfl) rfl ?_
  obtain ⟨x_17, hl, h⟩ := bd1_some h
  refine l_X8_digest_L33  tl tt lw M  _ FU x_7 0 hl ?_
  refine T_iconst dX8_digest_80 ic_0 ?_
  refine T_istore_n (i := 3) (L' := [aR (some 0), aJ x_17, aU, aI 0, aU]) dX8_digest_81 rfl (Nat.le_of_ble_eq_true rfl) rfl ?_
  obtain ⟨x_24, hl, h⟩ := bd1_some h
  refine l_X8_digest_L82  tl tt lw M  _ FU x_17 0 hl ?_
  refine T_iconst dX8_digest_109 ic_0 ?_
  refine T_istore_n (i := 3) (L' := [aR (some 0), aJ x_24, aU, aI 0, aU]) dX8_digest_110 rfl (Nat.le_of_ble_eq_true rfl) rfl ?_
  obtain ⟨x_34, hl, h⟩ := bd1_some h
  refine l_X8_digest_L111  tl tt lw M  _ FU x_24 0 hl ?_
  refine T_iconst dX8_digest_137 ic_0 ?_
  refine T_istore_n (i := 3) (L' := [aR (some 0), aJ x_34, aU, aI 0, aU]) dX8_digest_138 rfl (Nat.le_of_ble_eq_true rfl) rfl ?_
  obtain ⟨x_44, hl, h⟩ := bd1_some h
  refine l_X8_digest_L139  tl tt lw M  _ FU x_34 0 hl ?_
  refine T_iconst dX8_digest_165 ic_0 ?_
  refine T_istore_n (i := 3) (L' := [aR (some 0), aJ x_44, aU, aI 0, aU]) dX8_digest_166 rfl (Nat.le_of_ble_eq_true rfl) rfl ?_
  exact l_X8_digest_L167  tl tt lw M  _ FU x_44 0 h ⟨rfl, rfl, rfl, rfl⟩
