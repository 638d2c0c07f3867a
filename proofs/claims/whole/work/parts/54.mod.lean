def X9_heapOn_L65 (rc : Mem → Int32 → Int32 → Option (Int64 × Mem)) (x1 : Int32) (x2 : Int32) : Int64 × Int32 × Mem → Option ((Int64 × Int32 × Mem) ⊕ (Int64 × Mem))
  | (x3, x5, M) =>
    if (gI M 0 23) ≤ x5 then some (.inr (x3, M))
    else chk (inb x5 8 = true) (bd1 (F_X9_rowAt M x1 x2) fun r_3 => if (gI M 17 x5.toNatClampNeg) < r_3 then lett (x5 + 1) fun x_5 => some (.inl (x3, x_5, M))
    else chk (inb x5 8 = true) (bd1 (F_X9_rowAt M x1 x2) fun r_8 => chk (inb x5 8 = true) (lett (sI M 17 x5.toNatClampNeg ((gI M 17 x5.toNatClampNeg) - r_8)) fun M_10 => bd2 (rc M_10 x1 (x2 + 1)) fun r_13 M_14 => lett (x3 + r_13) fun x_16 => chk (inb x5 8 = true) (bd1 (F_X9_rowAt M_14 x1 x2) fun r_19 => chk (inb x5 8 = true) (lett (sI M_14 17 x5.toNatClampNeg ((gI M_14 17 x5.toNatClampNeg) + r_19)) fun M_21 => lett (x5 + 1) fun x_24 => some (.inl (x_16, x_24, M_21)))))))
def X9_heapOn_L15 (rc : Mem → Int32 → Int32 → Option (Int64 × Mem)) (M : Mem) : Int32 × Int32 → Option ((Int32 × Int32) ⊕ (Int32))
  | (x3, x4) =>
    if (gI M 0 23) ≤ x4 then some (.inr x3)
    else if x3 = 0 then lett (x4 + 1) fun x_26 => some (.inl (0, x_26))
    else chk (inb x4 8 = true) (if (gI M 17 x4.toNatClampNeg) = 0 then lett (x4 + 1) fun x_31 => some (.inl (1, x_31))
    else lett (x4 + 1) fun x_29 => some (.inl (0, x_29)))
def F_X9_heapOn : Nat → Mem → Int32 → Int32 → Option (Int64 × Mem)
  | 0, _, _, _ => none
  | n + 1, M, x1, x2 =>
    chk (inb x1 6 = true) (if x2 = (gI M 2 x1.toNatClampNeg) then bd1 (loop (X9_heapOn_L15 (F_X9_heapOn n) M) FU (1, 0)) fun x_33 => if x_33 = 0 then some (0, M)
    else some (1, M)
    else loop (X9_heapOn_L65 (F_X9_heapOn n) x1 x2) FU (0, 0, M))
set_option maxRecDepth 100000 in
set_option maxHeartbeats 4000000 in
theorem s_X9_heapOn_L65 (rc : Mem → Int32 → Int32 → Option (Int64 × Mem)) {n : Nat} (hrc : ∀ (M : Mem) (x1 : Int32) (x2 : Int32) (r : Int64) (M' : Mem), rc M x1 x2 = some (r, M') → Cal yX9_heapOn cX9_heapOn 6 (some .long) 1 (2 + n) 0 0 false [vR (some 0), vI x1, vI x2] LAYM rfm M (eqp (vJ r) LAYM rfm M')) (x1 : Int32) (x2 : Int32) (x3 : Int64) (x5 : Int32) (M : Mem) {Po : Po_} (x : (Int64 × Int32 × Mem) ⊕ (Int64 × Mem)) (h : X9_heapOn_L65 rc x1 x2 (x3, x5, M) = some x) (hI : ∀ (ix3 : Int64) (ix5 : Int32) (iM : Mem), x = .inl (ix3, ix5, iM) → T RX9 cX9_heapOn 6 (some .long) 1 (2 + (n + 1)) 0 0 false Po 65 [aR (some 0), aI x1, aI x2, aJ ix3, aU, aI ix5] [] LAYM rfm iM 0 0) (hE0 : ∀ (er : Int64) (eM : Mem), x = .inr (er, eM) → Po (vJ er) LAYM rfm eM) : T RX9 cX9_heapOn 6 (some .long) 1 (2 + (n + 1)) 0 0 false Po 65 [aR (some 0), aI x1, aI x2, aJ x3, aU, aI x5] [] LAYM rfm M 0 0 := by
  unfold X9_heapOn_L65 at h
  simp only at h
  refine T_iload dX9_heapOn_65 rfl ?_
  refine T_aload_n dX9_heapOn_67 rfl ?_
  refine T_getI dX9_heapOn_68 clOK_X9 fl_X9_187 lyM_0 rfl ?_
  refine T_icmp_ge (tgt := 139) dX9_heapOn_71 (by decide) (fun hc => ?_) (fun hc => ?_)
  · have h := it_pos hc h
    refine T_lload_n dX9_heapOn_139 rfl ?_
    obtain rfl := sm1 h
    exact T_lret dX9_heapOn_140 (hE0 _ _ rfl)
  · have h := it_neg hc h
    refine T_aload_n dX9_heapOn_74 rfl ?_
    refine T_getR dX9_heapOn_75 clOK_X9 fl_X9_62 lyM_0 rfl rfl ?_
    refine T_iload dX9_heapOn_78 rfl ?_
    obtain ⟨hi_2, h⟩ := chk_some h
    refine T_iald dX9_heapOn_80 lyM_17 (inb_in hi_2) ?_
    refine T_aload_n dX9_heapOn_81 rfl ?_
    refine T_iload_n dX9_heapOn_82 rfl ?_
    refine T_iload_n dX9_heapOn_83 rfl ?_
    obtain ⟨r_3, hc_4, h⟩ := bd1_some h
    refine T_cvi (as := [vI x1, vI x2]) dX9_heapOn_84 cw_X9_rowAt ml_X9_101 mi_X9_rowAt se_X9_rowAt lyM_0 rfl (by decide) rfl (Nat.le_of_ble_eq_true rfl) (by omega) (m_X9_rowAt  M x1 x2  _ hc_4) ?_
    refine T_icmp_lt (tgt := 133) dX9_heapOn_87 (by decide) (fun hc => ?_) (fun hc => ?_)
    · have h := it_pos hc h
      obtain ⟨x_5, ex_6, h⟩ := lett_some h
      refine T_iinc (L' := [aR (some 0), aI x1, aI x2, aJ x3, aU, aI x_5]) dX9_heapOn_133 rfl (ic_inc ic_1 ex_6) (Nat.le_of_ble_eq_true rfl) rfl ?_
      refine T_goto (tgt := 65) dX9_heapOn_136 (by decide) ?_
      obtain rfl := sm1 h
      exact hI _ _ _ rfl
    · have h := it_neg hc h
      refine T_aload_n dX9_heapOn_90 rfl ?_
      refine T_getR dX9_heapOn_91 clOK_X9 fl_X9_62 lyM_0 rfl rfl ?_
      refine T_iload dX9_heapOn_94 rfl ?_
      refine T_dup2_11 dX9_heapOn_96 rfl rfl ?_
      obtain ⟨hi_7, h⟩ := chk_some h
      refine T_iald dX9_heapOn_97 lyM_17 (inb_in hi_7) ?_
      refine T_aload_n dX9_heapOn_98 rfl ?_
      refine T_iload_n dX9_heapOn_99 rfl ?_
      refine T_iload_n dX9_heapOn_100 rfl ?_
      obtain ⟨r_8, hc_9, h⟩ := bd1_some h
      refine T_cvi (as := [vI x1, vI x2]) dX9_heapOn_101 cw_X9_rowAt ml_X9_101 mi_X9_rowAt se_X9_rowAt lyM_0 rfl (by decide) rfl (Nat.le_of_ble_eq_true rfl) (by omega) (m_X9_rowAt  M x1 x2  _ hc_9) ?_
      refine T_isub dX9_heapOn_104 ?_
      obtain ⟨hi_12, h⟩ := chk_some h
      obtain ⟨M_10, eM_11, h⟩ := lett_some h
      refine T_iast dX9_heapOn_105 lyM_17 (inb_in hi_12) eM_11 ?_
      refine T_lload_n dX9_heapOn_106 rfl ?_
      refine T_aload_n dX9_heapOn_107 rfl ?_
      refine T_iload_n dX9_heapOn_108 rfl ?_
      refine T_iload_n dX9_heapOn_109 rfl ?_
      refine T_iconst dX9_heapOn_110 ic_1 ?_
      refine T_iadd dX9_heapOn_111 ?_
      obtain ⟨r_13, M_14, hc_15, h⟩ := bd2_some h
      refine T_cvl (as := [vI x1, vI (x2 + 1)]) dX9_heapOn_112 cw_X9_heapOn ml_X9_312 mi_X9_heapOn se_X9_heapOn lyM_0 rfl (by decide) rfl (Nat.le_of_ble_eq_true rfl) (by omega) (hrc  M_10 x1 (x2 + 1)  _ _ hc_15) ?_
      refine T_ladd dX9_heapOn_115 ?_
      obtain ⟨x_16, ex_17, h⟩ := lett_some h
      refine T_topJ ex_17 ?_
      refine T_lstore_n (i := 3) (L' := [aR (some 0), aI x1, aI x2, aJ x_16, aU, aI x5]) dX9_heapOn_116 rfl (Nat.le_of_ble_eq_true rfl) rfl ?_
      refine T_aload_n dX9_heapOn_117 rfl ?_
      refine T_getR dX9_heapOn_118 clOK_X9 fl_X9_62 lyM_0 rfl rfl ?_
      refine T_iload dX9_heapOn_121 rfl ?_
      refine T_dup2_11 dX9_heapOn_123 rfl rfl ?_
      obtain ⟨hi_18, h⟩ := chk_some h
      refine T_iald dX9_heapOn_124 lyM_17 (inb_in hi_18) ?_
      refine T_aload_n dX9_heapOn_125 rfl ?_
      refine T_iload_n dX9_heapOn_126 rfl ?_
      refine T_iload_n dX9_heapOn_127 rfl ?_
      obtain ⟨r_19, hc_20, h⟩ := bd1_some h
      refine T_cvi (as := [vI x1, vI x2]) dX9_heapOn_128 cw_X9_rowAt ml_X9_101 mi_X9_rowAt se_X9_rowAt lyM_0 rfl (by decide) rfl (Nat.le_of_ble_eq_true rfl) (by omega) (m_X9_rowAt  M_14 x1 x2  _ hc_20) ?_
      refine T_iadd dX9_heapOn_131 ?_
      obtain ⟨hi_23, h⟩ := chk_some h
      obtain ⟨M_21, eM_22, h⟩ := lett_some h
      refine T_iast dX9_heapOn_132 lyM_17 (inb_in hi_23) eM_22 ?_
      obtain ⟨x_24, ex_25, h⟩ := lett_some h
      refine T_iinc (L' := [aR (some 0), aI x1, aI x2, aJ x_16, aU, aI x_24]) dX9_heapOn_133 rfl (ic_inc ic_1 ex_25) (Nat.le_of_ble_eq_true rfl) rfl ?_
      refine T_goto (tgt := 65) dX9_heapOn_136 (by decide) ?_
      obtain rfl := sm1 h
      exact hI _ _ _ rfl
set_option maxRecDepth 100000 in
set_option maxHeartbeats 4000000 in
theorem l_X9_heapOn_L65 (rc : Mem → Int32 → Int32 → Option (Int64 × Mem)) {n : Nat} (hrc : ∀ (M : Mem) (x1 : Int32) (x2 : Int32) (r : Int64) (M' : Mem), rc M x1 x2 = some (r, M') → Cal yX9_heapOn cX9_heapOn 6 (some .long) 1 (2 + n) 0 0 false [vR (some 0), vI x1, vI x2] LAYM rfm M (eqp (vJ r) LAYM rfm M')) (x1 : Int32) (x2 : Int32) {Po : Po_} (er : Int64) (eM : Mem) : ∀ (k : Nat) (x3 : Int64) (x5 : Int32) (M : Mem), loop (X9_heapOn_L65 rc x1 x2) k (x3, x5, M) = some (er, eM) → (Po (vJ er) LAYM rfm eM) → T RX9 cX9_heapOn 6 (some .long) 1 (2 + (n + 1)) 0 0 false Po 65 [aR (some 0), aI x1, aI x2, aJ x3, aU, aI x5] [] LAYM rfm M 0 0 := by
  intro k
  induction k with
  | zero => intro x3 x5 M h; cases h
  | succ k ih =>
    intro x3 x5 M h hE
    obtain ⟨x, hx, hx1, hx2⟩ := loop_succ h
    exact s_X9_heapOn_L65 rc hrc  x1 x2  x3 x5 M x hx (fun q0 q1 q2 e => ih q0 q1 q2 (hx1 _ e) hE) (fun q0 q1 e => by cases hx2 _ e; exact hE)
set_option maxRecDepth 100000 in
set_option maxHeartbeats 4000000 in
theorem s_X9_heapOn_L15 (rc : Mem → Int32 → Int32 → Option (Int64 × Mem)) {n : Nat} (hrc : ∀ (M : Mem) (x1 : Int32) (x2 : Int32) (r : Int64) (M' : Mem), rc M x1 x2 = some (r, M') → Cal yX9_heapOn cX9_heapOn 6 (some .long) 1 (2 + n) 0 0 false [vR (some 0), vI x1, vI x2] LAYM rfm M (eqp (vJ r) LAYM rfm M')) (M : Mem) (x3 : Int32) (x4 : Int32) {Po : Po_} (x : (Int32 × Int32) ⊕ (Int32)) (h : X9_heapOn_L15 rc M (x3, x4) = some x) (hI : ∀ (ix3 : Int32) (ix4 : Int32), x = .inl (ix3, ix4) → T RX9 cX9_heapOn 6 (some .long) 1 (2 + (n + 1)) 0 0 false Po 15 [aR (some 0), aU, aU, aI ix3, aI ix4, aU] [] LAYM rfm M 0 0) (hE0 : ∀ (e3 : Int32), x = .inr e3 → T RX9 cX9_heapOn 6 (some .long) 1 (2 + (n + 1)) 0 0 false Po 50 [aU, aU, aU, aI e3, aU, aU] [] LAYM rfm M 0 0) : T RX9 cX9_heapOn 6 (some .long) 1 (2 + (n + 1)) 0 0 false Po 15 [aR (some 0), aU, aU, aI x3, aI x4, aU] [] LAYM rfm M 0 0 := by
  unfold X9_heapOn_L15 at h
  simp only at h
  refine T_iload dX9_heapOn_15 rfl ?_
  refine T_aload_n dX9_heapOn_17 rfl ?_
  refine T_getI dX9_heapOn_18 clOK_X9 fl_X9_187 lyM_0 rfl ?_
  refine T_icmp_ge (tgt := 50) dX9_heapOn_21 (by decide) (fun hc => ?_) (fun hc => ?_)
  · have h := it_pos hc h
    obtain rfl := sm1 h
    refine T_mask [false, true, true, true, false, true] rfl ?_
    exact hE0 _ rfl
  · have h := it_neg hc h
    refine T_iload_n dX9_heapOn_24 rfl ?_
    refine T_if_eq (tgt := 42) dX9_heapOn_25 (by decide) (fun hc => ?_) (fun hc => ?_)
    · have h := it_pos hc h
      refine T_iconst dX9_heapOn_42 ic_0 ?_
      refine T_istore_n (i := 3) (L' := [aR (some 0), aU, aU, aI 0, aI x4, aU]) dX9_heapOn_43 rfl (Nat.le_of_ble_eq_true rfl) rfl ?_
      obtain ⟨x_26, ex_27, h⟩ := lett_some h
      refine T_iinc (L' := [aR (some 0), aU, aU, aI 0, aI x_26, aU]) dX9_heapOn_44 rfl (ic_inc ic_1 ex_27) (Nat.le_of_ble_eq_true rfl) rfl ?_
      refine T_goto (tgt := 15) dX9_heapOn_47 (by decide) ?_
      obtain rfl := sm1 h
      exact hI _ _ rfl
    · have h := it_neg hc h
      refine T_aload_n dX9_heapOn_28 rfl ?_
      refine T_getR dX9_heapOn_29 clOK_X9 fl_X9_62 lyM_0 rfl rfl ?_
      refine T_iload dX9_heapOn_32 rfl ?_
      obtain ⟨hi_28, h⟩ := chk_some h
      refine T_iald dX9_heapOn_34 lyM_17 (inb_in hi_28) ?_
      refine T_if_ne (tgt := 42) dX9_heapOn_35 (by decide) (fun hc => ?_) (fun hc => ?_)
      · have h := it_neg hc h
        refine T_iconst dX9_heapOn_42 ic_0 ?_
        refine T_istore_n (i := 3) (L' := [aR (some 0), aU, aU, aI 0, aI x4, aU]) dX9_heapOn_43 rfl (Nat.le_of_ble_eq_true rfl) rfl ?_
        obtain ⟨x_29, ex_30, h⟩ := lett_some h
        refine T_iinc (L' := [aR (some 0), aU, aU, aI 0, aI x_29, aU]) dX9_heapOn_44 rfl (ic_inc ic_1 ex_30) (Nat.le_of_ble_eq_true rfl) rfl ?_
        refine T_goto (tgt := 15) dX9_heapOn_47 (by decide) ?_
        obtain rfl := sm1 h
        exact hI _ _ rfl
      · have h := it_pos hc h
        refine T_iconst dX9_heapOn_38 ic_1 ?_
        refine T_goto (tgt := 43) dX9_heapOn_39 (by decide) ?_
        refine T_istore_n (i := 3) (L' := [aR (some 0), aU, aU, aI 1, aI x4, aU]) dX9_heapOn_43 rfl (Nat.le_of_ble_eq_true rfl) rfl ?_
        obtain ⟨x_31, ex_32, h⟩ := lett_some h
        refine T_iinc (L' := [aR (some 0), aU, aU, aI 1, aI x_31, aU]) dX9_heapOn_44 rfl (ic_inc ic_1 ex_32) (Nat.le_of_ble_eq_true rfl) rfl ?_
        refine T_goto (tgt := 15) dX9_heapOn_47 (by decide) ?_
        obtain rfl := sm1 h
        exact hI _ _ rfl
set_option maxRecDepth 100000 in
set_option maxHeartbeats 4000000 in
theorem l_X9_heapOn_L15 (rc : Mem → Int32 → Int32 → Option (Int64 × Mem)) {n : Nat} (hrc : ∀ (M : Mem) (x1 : Int32) (x2 : Int32) (r : Int64) (M' : Mem), rc M x1 x2 = some (r, M') → Cal yX9_heapOn cX9_heapOn 6 (some .long) 1 (2 + n) 0 0 false [vR (some 0), vI x1, vI x2] LAYM rfm M (eqp (vJ r) LAYM rfm M')) (M : Mem) {Po : Po_} (e3 : Int32) : ∀ (k : Nat) (x3 : Int32) (x4 : Int32), loop (X9_heapOn_L15 rc M) k (x3, x4) = some e3 → (T RX9 cX9_heapOn 6 (some .long) 1 (2 + (n + 1)) 0 0 false Po 50 [aU, aU, aU, aI e3, aU, aU] [] LAYM rfm M 0 0) → T RX9 cX9_heapOn 6 (some .long) 1 (2 + (n + 1)) 0 0 false Po 15 [aR (some 0), aU, aU, aI x3, aI x4, aU] [] LAYM rfm M 0 0 := by
  intro k
  induction k with
  | zero => intro x3 x4 h; cases h
  | succ k ih =>
    intro x3 x4 h hE
    obtain ⟨x, hx, hx1, hx2⟩ := loop_succ h
    exact s_X9_heapOn_L15 rc hrc  M  x3 x4 x hx (fun q0 q1 e => ih q0 q1 (hx1 _ e) hE) (fun q0 e => by cases hx2 _ e; exact hE)
set_option maxRecDepth 100000 in
set_option maxHeartbeats 4000000 in
theorem m_X9_heapOn : ∀ (n : Nat) (M : Mem) (x1 : Int32) (x2 : Int32) (r : Int64) (M' : Mem), F_X9_heapOn n M x1 x2 = some (r, M') → Cal yX9_heapOn cX9_heapOn 6 (some .long) 1 (2 + n) 0 0 false [vR (some 0), vI x1, vI x2] LAYM rfm M (eqp (vJ r) LAYM rfm M') := by
  intro n
  induction n with
  | zero => intro M x1 x2 r M' h; cases h
  | succ n ih =>
    intro M x1 x2 r M' h
    refine Cal.of (by decide +kernel) (Nat.le_of_ble_eq_true rfl) (fun h => by cases h) ?_
    simp only [F_X9_heapOn] at h
    show T RX9 cX9_heapOn 6 (some .long) 1 (2 + (n + 1)) 0 0 false (eqp (vJ r) LAYM rfm M') 0 [aR (some 0), aI x1, aI x2, aU, aU, aU] [] LAYM rfm M 0 0
    refine T_iload_n dX9_heapOn_0 rfl ?_
    refine T_aload_n dX9_heapOn_1 rfl ?_
    refine T_getR dX9_heapOn_2 clOK_X9 fl_X9_17 lyM_0 rfl rfl ?_
    refine T_iload_n dX9_heapOn_5 rfl ?_
    obtain ⟨hi_1, h⟩ := chk_some h
    refine T_iald dX9_heapOn_6 lyM_2 (inb_in hi_1) ?_
    refine T_icmp_ne (tgt := 60) dX9_heapOn_7 (by decide) (fun hc => ?_) (fun hc => ?_)
    · have h := it_neg hc h
      refine T_lconst dX9_heapOn_60 lc_0 ?_
      refine T_lstore_n (i := 3) (L' := [aR (some 0), aI x1, aI x2, aJ 0, aU, aU]) dX9_heapOn_61 rfl (Nat.le_of_ble_eq_true rfl) rfl ?_
      refine T_iconst dX9_heapOn_62 ic_0 ?_
      refine T_istore (i := 5) (L' := [aR (some 0), aI x1, aI x2, aJ 0, aU, aI 0]) dX9_heapOn_63 (Nat.le_of_ble_eq_true rfl) rfl ?_
      exact l_X9_heapOn_L65 _ ih  x1 x2  _ _ FU 0 0 M h ⟨rfl, rfl, rfl, rfl⟩
    · have h := it_pos hc h
      refine T_iconst dX9_heapOn_10 ic_1 ?_
      refine T_istore_n (i := 3) (L' := [aR (some 0), aI x1, aI x2, aI 1, aU, aU]) dX9_heapOn_11 rfl (Nat.le_of_ble_eq_true rfl) rfl ?_
      refine T_iconst dX9_heapOn_12 ic_0 ?_
      refine T_istore (i := 4) (L' := [aR (some 0), aI x1, aI x2, aI 1, aI 0, aU]) dX9_heapOn_13 (Nat.le_of_ble_eq_true rfl) rfl ?_
      obtain ⟨x_33, hl, h⟩ := bd1_some h
      refine T_mask [true, false, false, true, true, true] rfl ?_
      refine l_X9_heapOn_L15 _ ih  M  _ FU 1 0 hl ?_
      refine T_iload_n dX9_heapOn_50 rfl ?_
      refine T_if_eq (tgt := 58) dX9_heapOn_51 (by decide) (fun hc => ?_) (fun hc => ?_)
      · have h := it_pos hc h
        refine T_lconst dX9_heapOn_58 lc_0 ?_
        obtain ⟨rfl, rfl⟩ := sm2 h
        exact T_lret dX9_heapOn_59 ⟨rfl, rfl, rfl, rfl⟩
      · have h := it_neg hc h
        refine T_lconst dX9_heapOn_54 lc_1 ?_
        refine T_goto (tgt := 59) dX9_heapOn_55 (by decide) ?_
        obtain ⟨rfl, rfl⟩ := sm2 h
        exact T_lret dX9_heapOn_59 ⟨rfl, rfl, rfl, rfl⟩
def X9_heaps_L35 (M : Mem) (x1 : Int32) : Int32 → Option ((Int32) ⊕ ((Unit) ⊕ (Int32 × Mem)))
  | x3 =>
    chk (inb x1 6 = true) (if (gI M 2 x1.toNatClampNeg) ≤ x3 then some (.inr (.inl ()))
    else bd1 (F_X9_rowAt M x1 x3) fun r_8 => bd1 (F_X9_in r_8 1 (nI 80)) fun r_10 => if r_10 = 0 then bd2 (F_X9_meet M (nI 3)) fun r_14 M_15 => some (.inr (.inr (r_14, M_15)))
    else lett (x3 + 1) fun x_12 => some (.inl x_12))
def X9_heaps_L78 (x1 : Int32) : Int32 × Mem → Option ((Int32 × Mem) ⊕ (Int32 × Mem))
  | (x3, M) =>
    if (gI M 0 23) ≤ x3 then bd2 (F_X9_heapOn 12 M x1 0) fun r_20 M_21 => bd2 (F_X9_part M_21 r_20 1) fun r_23 M_24 => some (.inr (r_23, M_24))
    else chk (inb x3 8 = true) (bd1 (F_X9_volume M 7 0 (gI M 11 x3.toNatClampNeg)) fun r_27 => chk (inb x3 8 = true) (lett (sI M 17 x3.toNatClampNeg r_27) fun M_29 => lett (x3 + 1) fun x_32 => some (.inl (x_32, M_29))))
def F_X9_heaps (M : Mem) (x1 : Int32) : Option (Int32 × Mem) :=
 bd2 (F_X9_askedRow M x1) fun r_1 M_2 => if 0 ≤ r_1 then chk (inb x1 6 = true) (bd1 (F_X9_in (gI M_2 2 x1.toNatClampNeg) 1 (nI 6)) fun r_5 => if r_5 = 0 then bd2 (F_X9_meet M_2 (nI 5)) fun r_36 M_37 => some (r_36, M_37)
 else bd1 (loop (X9_heaps_L35 M_2 x1) FU 0) (Sum.elim (un0 fun _ => bd1 (F_X9_layHoles M_2) fun M_18 => loop (X9_heaps_L78 x1) FU (0, M_18)) (un2 fun r_34 r_35 => some (r_34, r_35))))
 else some (r_1, M_2)
set_option maxRecDepth 100000 in
set_option maxHeartbeats 4000000 in
theorem s_X9_heaps_L35 (M : Mem) (x1 : Int32) (x3 : Int32) {Po : Po_} (x : (Int32) ⊕ ((Unit) ⊕ (Int32 × Mem))) (h : X9_heaps_L35 M x1 x3 = some x) (hI : ∀ (ix3 : Int32), x = .inl ix3 → T RX9 cX9_heaps 4 (some .int) 0 15 0 0 false Po 35 [aR (some 0), aI x1, aU, aI ix3] [] LAYM rfm M 0 0) (hE0 : x = .inr (.inl ()) → T RX9 cX9_heaps 4 (some .int) 0 15 0 0 false Po 72 [aR (some 0), aI x1, aU, aU] [] LAYM rfm M 0 0) (hE1 : ∀ (er : Int32) (eM : Mem), x = .inr (.inr (er, eM)) → Po (vI er) LAYM rfm eM) : T RX9 cX9_heaps 4 (some .int) 0 15 0 0 false Po 35 [aR (some 0), aI x1, aU, aI x3] [] LAYM rfm M 0 0 := by
  unfold X9_heaps_L35 at h
  simp only at h
  refine T_iload_n dX9_heaps_35 rfl ?_
  refine T_aload_n dX9_heaps_36 rfl ?_
  refine T_getR dX9_heaps_37 clOK_X9 fl_X9_17 lyM_0 rfl rfl ?_
  refine T_iload_n dX9_heaps_40 rfl ?_
  obtain ⟨hi_7, h⟩ := chk_some h
  refine T_iald dX9_heaps_41 lyM_2 (inb_in hi_7) ?_
  refine T_icmp_ge (tgt := 72) dX9_heaps_42 (by decide) (fun hc => ?_) (fun hc => ?_)
  · have h := it_pos hc h
    obtain rfl := sm1 h
    refine T_mask [true, true, true, false] rfl ?_
    exact hE0  rfl
  · have h := it_neg hc h
    refine T_aload_n dX9_heaps_45 rfl ?_
    refine T_iload_n dX9_heaps_46 rfl ?_
    refine T_iload_n dX9_heaps_47 rfl ?_
    obtain ⟨r_8, hc_9, h⟩ := bd1_some h
    refine T_cvi (as := [vI x1, vI x3]) dX9_heaps_48 cw_X9_rowAt ml_X9_101 mi_X9_rowAt se_X9_rowAt lyM_0 rfl (by decide) rfl (Nat.le_of_ble_eq_true rfl) (Nat.le_of_ble_eq_true rfl) (m_X9_rowAt  M x1 x3  _ hc_9) ?_
    refine T_iconst dX9_heaps_51 ic_1 ?_
    refine T_bipush dX9_heaps_52 bp_80 ?_
    obtain ⟨r_10, hc_11, h⟩ := bd1_some h
    refine T_csi (as := [vI r_8, vI 1, vI (nI 80)]) dX9_heaps_54 cw_X9_in ml_X9_79 mt_X9_in rfl (Nat.le_of_ble_eq_true rfl) (Nat.le_of_ble_eq_true rfl) (m_X9_in M r_8 1 (nI 80)  _ hc_11) ?_
    refine T_if_ne (tgt := 66) dX9_heaps_57 (by decide) (fun hc => ?_) (fun hc => ?_)
    · have h := it_neg hc h
      obtain ⟨x_12, ex_13, h⟩ := lett_some h
      refine T_iinc (L' := [aR (some 0), aI x1, aU, aI x_12]) dX9_heaps_66 rfl (ic_inc ic_1 ex_13) (Nat.le_of_ble_eq_true rfl) rfl ?_
      refine T_goto (tgt := 35) dX9_heaps_69 (by decide) ?_
      obtain rfl := sm1 h
      exact hI _ rfl
    · have h := it_pos hc h
      refine T_aload_n dX9_heaps_60 rfl ?_
      refine T_iconst dX9_heaps_61 ic_3 ?_
      obtain ⟨r_14, M_15, hc_16, h⟩ := bd2_some h
      refine T_cvi (as := [vI (nI 3)]) dX9_heaps_62 cw_X9_meet ml_X9_87 mi_X9_meet se_X9_meet lyM_0 rfl (by decide) rfl (Nat.le_of_ble_eq_true rfl) (Nat.le_of_ble_eq_true rfl) (m_X9_meet  M (nI 3)  _ _ hc_16) ?_
      obtain rfl := sm1 h
      exact T_iret dX9_heaps_65 (hE1 _ _ rfl)
set_option maxRecDepth 100000 in
set_option maxHeartbeats 4000000 in
theorem l_X9_heaps_L35 (M : Mem) (x1 : Int32) {Po : Po_} (e : ((Unit) ⊕ (Int32 × Mem))) : ∀ (k : Nat) (x3 : Int32), loop (X9_heaps_L35 M x1) k x3 = some e → (e = (.inl ()) → T RX9 cX9_heaps 4 (some .int) 0 15 0 0 false Po 72 [aR (some 0), aI x1, aU, aU] [] LAYM rfm M 0 0) → (∀ (er : Int32) (eM : Mem), e = (.inr (er, eM)) → Po (vI er) LAYM rfm eM) → T RX9 cX9_heaps 4 (some .int) 0 15 0 0 false Po 35 [aR (some 0), aI x1, aU, aI x3] [] LAYM rfm M 0 0 := by
  intro k
  induction k with
  | zero => intro x3 h; cases h
  | succ k ih =>
    intro x3 h hE0 hE1
    obtain ⟨x, hx, hx1, hx2⟩ := loop_succ h
    exact s_X9_heaps_L35  M x1  x3 x hx (fun q0 ee => ih q0 (hx1 _ ee) hE0 hE1) (fun ee => hE0 (hx2 _ ee).symm) (fun q0 q1 ee => hE1 q0 q1 (hx2 _ ee).symm)
set_option maxRecDepth 100000 in
set_option maxHeartbeats 4000000 in
theorem s_X9_heaps_L78 (x1 : Int32) (x3 : Int32) (M : Mem) {Po : Po_} (x : (Int32 × Mem) ⊕ (Int32 × Mem)) (h : X9_heaps_L78 x1 (x3, M) = some x) (hI : ∀ (ix3 : Int32) (iM : Mem), x = .inl (ix3, iM) → T RX9 cX9_heaps 4 (some .int) 0 15 0 0 false Po 78 [aR (some 0), aI x1, aU, aI ix3] [] LAYM rfm iM 0 0) (hE0 : ∀ (er : Int32) (eM : Mem), x = .inr (er, eM) → Po (vI er) LAYM rfm eM) : T RX9 cX9_heaps 4 (some .int) 0 15 0 0 false Po 78 [aR (some 0), aI x1, aU, aI x3] [] LAYM rfm M 0 0 := by
  unfold X9_heaps_L78 at h
  simp only at h
  refine T_iload_n dX9_heaps_78 rfl ?_
  refine T_aload_n dX9_heaps_79 rfl ?_
  refine T_getI dX9_heaps_80 clOK_X9 fl_X9_187 lyM_0 rfl ?_
  refine T_icmp_ge (tgt := 113) dX9_heaps_83 (by decide) (fun hc => ?_) (fun hc => ?_)
  · have h := it_pos hc h
    refine T_aload_n dX9_heaps_113 rfl ?_
    refine T_aload_n dX9_heaps_114 rfl ?_
    refine T_iload_n dX9_heaps_115 rfl ?_
    refine T_iconst dX9_heaps_116 ic_0 ?_
    obtain ⟨r_20, M_21, hc_22, h⟩ := bd2_some h
    refine T_cvl (as := [vI x1, vI 0]) dX9_heaps_117 cw_X9_heapOn ml_X9_312 mi_X9_heapOn se_X9_heapOn lyM_0 rfl (by decide) rfl (Nat.le_of_ble_eq_true rfl) (by omega) (m_X9_heapOn 12  M x1 0  _ _ hc_22) ?_
    refine T_lconst dX9_heaps_120 lc_1 ?_
    obtain ⟨r_23, M_24, hc_25, h⟩ := bd2_some h
    refine T_cvi (as := [vJ r_20, vJ 1]) dX9_heaps_121 cw_X9_part ml_X9_308 mi_X9_part se_X9_part lyM_0 rfl (by decide) rfl (Nat.le_of_ble_eq_true rfl) (Nat.le_of_ble_eq_true rfl) (m_X9_part  M_21 r_20 1  _ _ hc_25) ?_
    obtain rfl := sm1 h
    exact T_iret dX9_heaps_124 (hE0 _ _ rfl)
  · have h := it_neg hc h
    refine T_aload_n dX9_heaps_86 rfl ?_
    refine T_getR dX9_heaps_87 clOK_X9 fl_X9_62 lyM_0 rfl rfl ?_
    refine T_iload_n dX9_heaps_90 rfl ?_
    refine T_aload_n dX9_heaps_91 rfl ?_
    refine T_aload_n dX9_heaps_92 rfl ?_
    refine T_getR dX9_heaps_93 clOK_X9 fl_X9_32 lyM_0 rfl rfl ?_
    refine T_iconst dX9_heaps_96 ic_0 ?_
    refine T_aload_n dX9_heaps_97 rfl ?_
    refine T_getR dX9_heaps_98 clOK_X9 fl_X9_44 lyM_0 rfl rfl ?_
    refine T_iload_n dX9_heaps_101 rfl ?_
    obtain ⟨hi_26, h⟩ := chk_some h
    refine T_iald dX9_heaps_102 lyM_11 (inb_in hi_26) ?_
    obtain ⟨r_27, hc_28, h⟩ := bd1_some h
    refine T_cvi (as := [vR (some 7), vI 0, vI (gI M 11 x3.toNatClampNeg)]) dX9_heaps_103 cw_X9_volume ml_X9_202 mi_X9_volume se_X9_volume lyM_0 rfl (by decide) rfl (Nat.le_of_ble_eq_true rfl) (Nat.le_of_ble_eq_true rfl) (m_X9_volume  M 7 0 (gI M 11 x3.toNatClampNeg) rfl _ hc_28) ?_
    obtain ⟨hi_31, h⟩ := chk_some h
    obtain ⟨M_29, eM_30, h⟩ := lett_some h
    refine T_iast dX9_heaps_106 lyM_17 (inb_in hi_31) eM_30 ?_
    obtain ⟨x_32, ex_33, h⟩ := lett_some h
    refine T_iinc (L' := [aR (some 0), aI x1, aU, aI x_32]) dX9_heaps_107 rfl (ic_inc ic_1 ex_33) (Nat.le_of_ble_eq_true rfl) rfl ?_
    refine T_goto (tgt := 78) dX9_heaps_110 (by decide) ?_
    obtain rfl := sm1 h
    exact hI _ _ rfl
set_option maxRecDepth 100000 in
set_option maxHeartbeats 4000000 in
theorem l_X9_heaps_L78 (x1 : Int32) {Po : Po_} (er : Int32) (eM : Mem) : ∀ (k : Nat) (x3 : Int32) (M : Mem), loop (X9_heaps_L78 x1) k (x3, M) = some (er, eM) → (Po (vI er) LAYM rfm eM) → T RX9 cX9_heaps 4 (some .int) 0 15 0 0 false Po 78 [aR (some 0), aI x1, aU, aI x3] [] LAYM rfm M 0 0 := by
  intro k
  induction k with
  | zero => intro x3 M h; cases h
  | succ k ih =>
    intro x3 M h hE
    obtain ⟨x, hx, hx1, hx2⟩ := loop_succ h
    exact s_X9_heaps_L78  x1  x3 M x hx (fun q0 q1 e => ih q0 q1 (hx1 _ e) hE) (fun q0 q1 e => by cases hx2 _ e; exact hE)
set_option maxRecDepth 100000 in
set_option maxHeartbeats 4000000 in
theorem m_X9_heaps (M : Mem) (x1 : Int32) (r : Int32) (M' : Mem) (h : F_X9_heaps M x1 = some (r, M')) : Cal yX9_heaps cX9_heaps 4 (some .int) 0 15 0 0 false [vR (some 0), vI x1] LAYM rfm M (eqp (vI r) LAYM rfm M') := by
  refine Cal.of (by decide +kernel) (Nat.le_of_ble_eq_true rfl) (fun h => by cases h) ?_
  unfold F_X9_heaps at h
  show T RX9 cX9_heaps 4 (some .int) 0 15 0 0 false (eqp (vI r) LAYM rfm M') 0 [aR (some 0), aI x1, aU, aU] [] LAYM rfm M 0 0
  refine T_aload_n dX9_heaps_0 rfl ?_
  refine T_iload_n dX9_heaps_1 rfl ?_
  obtain ⟨r_1, M_2, hc_3, h⟩ := bd2_some h
  refine T_cvi (as := [vI x1]) dX9_heaps_2 cw_X9_askedRow ml_X9_98 mi_X9_askedRow se_X9_askedRow lyM_0 rfl (by decide) rfl (Nat.le_of_ble_eq_true rfl) (Nat.le_of_ble_eq_true rfl) (m_X9_askedRow  M x1  _ _ hc_3) ?_
  refine T_istore_n (i := 2) (L' := [aR (some 0), aI x1, aI r_1, aU]) dX9_heaps_5 rfl (Nat.le_of_ble_eq_true rfl) rfl ?_
  refine T_iload_n dX9_heaps_6 rfl ?_
  refine T_if_ge (tgt := 12) dX9_heaps_7 (by decide) (fun hc => ?_) (fun hc => ?_)
  · have h := it_pos hc h
    refine T_aload_n dX9_heaps_12 rfl ?_
    refine T_getR dX9_heaps_13 clOK_X9 fl_X9_17 lyM_0 rfl rfl ?_
    refine T_iload_n dX9_heaps_16 rfl ?_
    obtain ⟨hi_4, h⟩ := chk_some h
    refine T_iald dX9_heaps_17 lyM_2 (inb_in hi_4) ?_
    refine T_iconst dX9_heaps_18 ic_1 ?_
    refine T_bipush dX9_heaps_19 bp_6 ?_
    obtain ⟨r_5, hc_6, h⟩ := bd1_some h
    refine T_csi (as := [vI (gI M_2 2 x1.toNatClampNeg), vI 1, vI (nI 6)]) dX9_heaps_21 cw_X9_in ml_X9_79 mt_X9_in rfl (Nat.le_of_ble_eq_true rfl) (Nat.le_of_ble_eq_true rfl) (m_X9_in M_2 (gI M_2 2 x1.toNatClampNeg) 1 (nI 6)  _ hc_6) ?_
    refine T_if_ne (tgt := 33) dX9_heaps_24 (by decide) (fun hc => ?_) (fun hc => ?_)
    · have h := it_neg hc h
      refine T_iconst dX9_heaps_33 ic_0 ?_
      refine T_istore_n (i := 3) (L' := [aR (some 0), aI x1, aI r_1, aI 0]) dX9_heaps_34 rfl (Nat.le_of_ble_eq_true rfl) rfl ?_
      obtain ⟨e_17, hl, h⟩ := bd1_some h
      refine T_mask [true, true, false, true] rfl ?_
      refine l_X9_heaps_L35  M_2 x1  e_17 FU 0 hl ?_ ?_
      · intro  ee
        subst ee
        have h := elim_l h
        have h := un0_ap h
        refine T_aload_n dX9_heaps_72 rfl ?_
        obtain ⟨M_18, hc_19, h⟩ := bd1_some h
        refine T_cvv (as := []) dX9_heaps_73 cw_X9_layHoles ml_X9_190 mi_X9_layHoles se_X9_layHoles lyM_0 rfl (by decide) rfl (Nat.le_of_ble_eq_true rfl) (Nat.le_of_ble_eq_true rfl) (m_X9_layHoles  M_2  _ hc_19) ?_
        refine T_iconst dX9_heaps_76 ic_0 ?_
        refine T_istore_n (i := 3) (L' := [aR (some 0), aI x1, aU, aI 0]) dX9_heaps_77 rfl (Nat.le_of_ble_eq_true rfl) rfl ?_
        exact l_X9_heaps_L78  x1  _ _ FU 0 M_18 h ⟨rfl, rfl, rfl, rfl⟩
      · intro r_34 r_35 ee
        subst ee
        have h := elim_r h
        have h := un2_ap h
        obtain ⟨rfl, rfl⟩ := sm2 h
        exact ⟨rfl, rfl, rfl, rfl⟩
    · have h := it_pos hc h
      refine T_aload_n dX9_heaps_27 rfl ?_
      refine T_iconst dX9_heaps_28 ic_5 ?_
      obtain ⟨r_36, M_37, hc_38, h⟩ := bd2_some h
      refine T_cvi (as := [vI (nI 5)]) dX9_heaps_29 cw_X9_meet ml_X9_87 mi_X9_meet se_X9_meet lyM_0 rfl (by decide) rfl (Nat.le_of_ble_eq_true rfl) (Nat.le_of_ble_eq_true rfl) (m_X9_meet  M_2 (nI 5)  _ _ hc_38) ?_
      obtain ⟨rfl, rfl⟩ := sm2 h
      exact T_iret dX9_heaps_32 ⟨rfl, rfl, rfl, rfl⟩
  · have h := it_neg hc h
    refine T_iload_n dX9_heaps_10 rfl ?_
    obtain ⟨rfl, rfl⟩ := sm2 h
    exact T_iret dX9_heaps_11 ⟨rfl, rfl, rfl, rfl⟩
def X9_askedWitnesses_L31 (M : Mem) (x1 : Int32) : Int32 → Option ((Int32) ⊕ (Int32 × Mem))
  | x3 =>
    chk (inb x1 6 = true) (if (gI M 2 x1.toNatClampNeg) ≤ x3 then some (.inr (0, M))
    else bd1 (F_X9_rowAt M x1 x3) fun r_6 => bd1 (F_X9_isCell M r_6) fun r_8 => if r_8 = 0 then bd2 (F_X9_meet M (nI 3)) fun r_10 M_11 => some (.inr (r_10, M_11))
    else bd1 (F_X9_rowAt M x1 (x3 + 1)) fun r_13 => bd1 (F_X9_in r_13 0 (nI 5)) fun r_15 => if r_15 = 0 then bd2 (F_X9_meet M (nI 3)) fun r_17 M_18 => some (.inr (r_17, M_18))
    else bd1 (F_X9_rowAt M x1 (x3 + (nI 2))) fun r_20 => bd1 (F_X9_in r_20 0 (nI 2)) fun r_22 => if r_22 = 0 then bd2 (F_X9_meet M (nI 3)) fun r_26 M_27 => some (.inr (r_26, M_27))
    else lett (x3 + (nI 3)) fun x_24 => some (.inl x_24))
def F_X9_askedWitnesses (M : Mem) (x1 : Int32) : Option (Int32 × Mem) :=
 bd2 (F_X9_askedRow M x1) fun r_1 M_2 => if 0 ≤ r_1 then chk (inb x1 6 = true) (if (irm (gI M_2 2 x1.toNatClampNeg) (nI 3)) = 0 then loop (X9_askedWitnesses_L31 M_2 x1) FU 0
 else bd2 (F_X9_meet M_2 (nI 5)) fun r_29 M_30 => some (r_29, M_30))
 else some (r_1, M_2)
set_option maxRecDepth 100000 in
set_option maxHeartbeats 4000000 in
theorem s_X9_askedWitnesses_L31 (M : Mem) (x1 : Int32) (x3 : Int32) {Po : Po_} (x : (Int32) ⊕ (Int32 × Mem)) (h : X9_askedWitnesses_L31 M x1 x3 = some x) (hI : ∀ (ix3 : Int32), x = .inl ix3 → T RX9 cX9_askedWitnesses 4 (some .int) 0 4 0 0 false Po 31 [aR (some 0), aI x1, aU, aI ix3] [] LAYM rfm M 0 0) (hE0 : ∀ (er : Int32) (eM : Mem), x = .inr (er, eM) → Po (vI er) LAYM rfm eM) : T RX9 cX9_askedWitnesses 4 (some .int) 0 4 0 0 false Po 31 [aR (some 0), aI x1, aU, aI x3] [] LAYM rfm M 0 0 := by
  unfold X9_askedWitnesses_L31 at h
  simp only at h
  refine T_iload_n dX9_askedWitnesses_31 rfl ?_
  refine T_aload_n dX9_askedWitnesses_32 rfl ?_
  refine T_getR dX9_askedWitnesses_33 clOK_X9 fl_X9_17 lyM_0 rfl rfl ?_
  refine T_iload_n dX9_askedWitnesses_36 rfl ?_
  obtain ⟨hi_5, h⟩ := chk_some h
  refine T_iald dX9_askedWitnesses_37 lyM_2 (inb_in hi_5) ?_
  refine T_icmp_ge (tgt := 98) dX9_askedWitnesses_38 (by decide) (fun hc => ?_) (fun hc => ?_)
  · have h := it_pos hc h
    refine T_iconst dX9_askedWitnesses_98 ic_0 ?_
    obtain rfl := sm1 h
    exact T_iret dX9_askedWitnesses_99 (hE0 _ _ rfl)
  · have h := it_neg hc h
    refine T_aload_n dX9_askedWitnesses_41 rfl ?_
    refine T_aload_n dX9_askedWitnesses_42 rfl ?_
    refine T_iload_n dX9_askedWitnesses_43 rfl ?_
    refine T_iload_n dX9_askedWitnesses_44 rfl ?_
    obtain ⟨r_6, hc_7, h⟩ := bd1_some h
    refine T_cvi (as := [vI x1, vI x3]) dX9_askedWitnesses_45 cw_X9_rowAt ml_X9_101 mi_X9_rowAt se_X9_rowAt lyM_0 rfl (by decide) rfl (Nat.le_of_ble_eq_true rfl) (Nat.le_of_ble_eq_true rfl) (m_X9_rowAt  M x1 x3  _ hc_7) ?_
    obtain ⟨r_8, hc_9, h⟩ := bd1_some h
    refine T_cvi (as := [vI r_6]) dX9_askedWitnesses_48 cw_X9_isCell ml_X9_212 mi_X9_isCell se_X9_isCell lyM_0 rfl (by decide) rfl (Nat.le_of_ble_eq_true rfl) (Nat.le_of_ble_eq_true rfl) (m_X9_isCell  M r_6  _ hc_9) ?_
    refine T_if_eq (tgt := 86) dX9_askedWitnesses_51 (by decide) (fun hc => ?_) (fun hc => ?_)
    · have h := it_pos hc h
      refine T_aload_n dX9_askedWitnesses_86 rfl ?_
      refine T_iconst dX9_askedWitnesses_87 ic_3 ?_
      obtain ⟨r_10, M_11, hc_12, h⟩ := bd2_some h
      refine T_cvi (as := [vI (nI 3)]) dX9_askedWitnesses_88 cw_X9_meet ml_X9_87 mi_X9_meet se_X9_meet lyM_0 rfl (by decide) rfl (Nat.le_of_ble_eq_true rfl) (Nat.le_of_ble_eq_true rfl) (m_X9_meet  M (nI 3)  _ _ hc_12) ?_
      obtain rfl := sm1 h
      exact T_iret dX9_askedWitnesses_91 (hE0 _ _ rfl)
    · have h := it_neg hc h
      refine T_aload_n dX9_askedWitnesses_54 rfl ?_
      refine T_iload_n dX9_askedWitnesses_55 rfl ?_
      refine T_iload_n dX9_askedWitnesses_56 rfl ?_
      refine T_iconst dX9_askedWitnesses_57 ic_1 ?_
      refine T_iadd dX9_askedWitnesses_58 ?_
      obtain ⟨r_13, hc_14, h⟩ := bd1_some h
      refine T_cvi (as := [vI x1, vI (x3 + 1)]) dX9_askedWitnesses_59 cw_X9_rowAt ml_X9_101 mi_X9_rowAt se_X9_rowAt lyM_0 rfl (by decide) rfl (Nat.le_of_ble_eq_true rfl) (Nat.le_of_ble_eq_true rfl) (m_X9_rowAt  M x1 (x3 + 1)  _ hc_14) ?_
      refine T_iconst dX9_askedWitnesses_62 ic_0 ?_
      refine T_iconst dX9_askedWitnesses_63 ic_5 ?_
      obtain ⟨r_15, hc_16, h⟩ := bd1_some h
      refine T_csi (as := [vI r_13, vI 0, vI (nI 5)]) dX9_askedWitnesses_64 cw_X9_in ml_X9_79 mt_X9_in rfl (Nat.le_of_ble_eq_true rfl) (Nat.le_of_ble_eq_true rfl) (m_X9_in M r_13 0 (nI 5)  _ hc_16) ?_
      refine T_if_eq (tgt := 86) dX9_askedWitnesses_67 (by decide) (fun hc => ?_) (fun hc => ?_)
      · have h := it_pos hc h
        refine T_aload_n dX9_askedWitnesses_86 rfl ?_
        refine T_iconst dX9_askedWitnesses_87 ic_3 ?_
        obtain ⟨r_17, M_18, hc_19, h⟩ := bd2_some h
        refine T_cvi (as := [vI (nI 3)]) dX9_askedWitnesses_88 cw_X9_meet ml_X9_87 mi_X9_meet se_X9_meet lyM_0 rfl (by decide) rfl (Nat.le_of_ble_eq_true rfl) (Nat.le_of_ble_eq_true rfl) (m_X9_meet  M (nI 3)  _ _ hc_19) ?_
        obtain rfl := sm1 h
        exact T_iret dX9_askedWitnesses_91 (hE0 _ _ rfl)
      · have h := it_neg hc h
        refine T_aload_n dX9_askedWitnesses_70 rfl ?_
        refine T_iload_n dX9_askedWitnesses_71 rfl ?_
        refine T_iload_n dX9_askedWitnesses_72 rfl ?_
        refine T_iconst dX9_askedWitnesses_73 ic_2 ?_
        refine T_iadd dX9_askedWitnesses_74 ?_
        obtain ⟨r_20, hc_21, h⟩ := bd1_some h
        refine T_cvi (as := [vI x1, vI (x3 + (nI 2))]) dX9_askedWitnesses_75 cw_X9_rowAt ml_X9_101 mi_X9_rowAt se_X9_rowAt lyM_0 rfl (by decide) rfl (Nat.le_of_ble_eq_true rfl) (Nat.le_of_ble_eq_true rfl) (m_X9_rowAt  M x1 (x3 + (nI 2))  _ hc_21) ?_
        refine T_iconst dX9_askedWitnesses_78 ic_0 ?_
        refine T_iconst dX9_askedWitnesses_79 ic_2 ?_
        obtain ⟨r_22, hc_23, h⟩ := bd1_some h
        refine T_csi (as := [vI r_20, vI 0, vI (nI 2)]) dX9_askedWitnesses_80 cw_X9_in ml_X9_79 mt_X9_in rfl (Nat.le_of_ble_eq_true rfl) (Nat.le_of_ble_eq_true rfl) (m_X9_in M r_20 0 (nI 2)  _ hc_23) ?_
        refine T_if_ne (tgt := 92) dX9_askedWitnesses_83 (by decide) (fun hc => ?_) (fun hc => ?_)
        · have h := it_neg hc h
          obtain ⟨x_24, ex_25, h⟩ := lett_some h
          refine T_iinc (L' := [aR (some 0), aI x1, aU, aI x_24]) dX9_askedWitnesses_92 rfl (ic_inc ic_3 ex_25) (Nat.le_of_ble_eq_true rfl) rfl ?_
          refine T_goto (tgt := 31) dX9_askedWitnesses_95 (by decide) ?_
          obtain rfl := sm1 h
          exact hI _ rfl
        · have h := it_pos hc h
          refine T_aload_n dX9_askedWitnesses_86 rfl ?_
          refine T_iconst dX9_askedWitnesses_87 ic_3 ?_
          obtain ⟨r_26, M_27, hc_28, h⟩ := bd2_some h
          refine T_cvi (as := [vI (nI 3)]) dX9_askedWitnesses_88 cw_X9_meet ml_X9_87 mi_X9_meet se_X9_meet lyM_0 rfl (by decide) rfl (Nat.le_of_ble_eq_true rfl) (Nat.le_of_ble_eq_true rfl) (m_X9_meet  M (nI 3)  _ _ hc_28) ?_
          obtain rfl := sm1 h
          exact T_iret dX9_askedWitnesses_91 (hE0 _ _ rfl)
set_option maxRecDepth 100000 in
set_option maxHeartbeats 4000000 in
theorem l_X9_askedWitnesses_L31 (M : Mem) (x1 : Int32) {Po : Po_} (er : Int32) (eM : Mem) : ∀ (k : Nat) (x3 : Int32), loop (X9_askedWitnesses_L31 M x1) k x3 = some (er, eM) → (Po (vI er) LAYM rfm eM) → T RX9 cX9_askedWitnesses 4 (some .int) 0 4 0 0 false Po 31 [aR (some 0), aI x1, aU, aI x3] [] LAYM rfm M 0 0 := by
  intro k
  induction k with
  | zero => intro x3 h; cases h
  | succ k ih =>
    intro x3 h hE
    obtain ⟨x, hx, hx1, hx2⟩ := loop_succ h
    exact s_X9_askedWitnesses_L31  M x1  x3 x hx (fun q0 e => ih q0 (hx1 _ e) hE) (fun q0 q1 e => by cases hx2 _ e; exact hE)
set_option maxRecDepth 100000 in
set_option maxHeartbeats 4000000 in
theorem m_X9_askedWitnesses (M : Mem) (x1 : Int32) (r : Int32) (M' : Mem) (h : F_X9_askedWitnesses M x1 = some (r, M')) : Cal yX9_askedWitnesses cX9_askedWitnesses 4 (some .int) 0 4 0 0 false [vR (some 0), vI x1] LAYM rfm M (eqp (vI r) LAYM rfm M') := by
  refine Cal.of (by decide +kernel) (Nat.le_of_ble_eq_true rfl) (fun h => by cases h) ?_
  unfold F_X9_askedWitnesses at h
  show T RX9 cX9_askedWitnesses 4 (some .int) 0 4 0 0 false (eqp (vI r) LAYM rfm M') 0 [aR (some 0), aI x1, aU, aU] [] LAYM rfm M 0 0
  refine T_aload_n dX9_askedWitnesses_0 rfl ?_
  refine T_iload_n dX9_askedWitnesses_1 rfl ?_
  obtain ⟨r_1, M_2, hc_3, h⟩ := bd2_some h
  refine T_cvi (as := [vI x1]) dX9_askedWitnesses_2 cw_X9_askedRow ml_X9_98 mi_X9_askedRow se_X9_askedRow lyM_0 rfl (by decide) rfl (Nat.le_of_ble_eq_true rfl) (Nat.le_of_ble_eq_true rfl) (m_X9_askedRow  M x1  _ _ hc_3) ?_
  refine T_istore_n (i := 2) (L' := [aR (some 0), aI x1, aI r_1, aU]) dX9_askedWitnesses_5 rfl (Nat.le_of_ble_eq_true rfl) rfl ?_
  refine T_iload_n dX9_askedWitnesses_6 rfl ?_
  refine T_if_ge (tgt := 12) dX9_askedWitnesses_7 (by decide) (fun hc => ?_) (fun hc => ?_)
  · have h := it_pos hc h
    refine T_aload_n dX9_askedWitnesses_12 rfl ?_
    refine T_getR dX9_askedWitnesses_13 clOK_X9 fl_X9_17 lyM_0 rfl rfl ?_
    refine T_iload_n dX9_askedWitnesses_16 rfl ?_
    obtain ⟨hi_4, h⟩ := chk_some h
    refine T_iald dX9_askedWitnesses_17 lyM_2 (inb_in hi_4) ?_
    refine T_iconst dX9_askedWitnesses_18 ic_3 ?_
    refine T_irem dX9_askedWitnesses_19 (by decide) ?_
    refine T_if_eq (tgt := 29) dX9_askedWitnesses_20 (by decide) (fun hc => ?_) (fun hc => ?_)
    · have h := it_pos hc h
      refine T_iconst dX9_askedWitnesses_29 ic_0 ?_
      refine T_istore_n (i := 3) (L' := [aR (some 0), aI x1, aI r_1, aI 0]) dX9_askedWitnesses_30 rfl (Nat.le_of_ble_eq_true rfl) rfl ?_
      refine T_mask [true, true, false, true] rfl ?_
      exact l_X9_askedWitnesses_L31  M_2 x1  _ _ FU 0 h ⟨rfl, rfl, rfl, rfl⟩
    · have h := it_neg hc h
      refine T_aload_n dX9_askedWitnesses_23 rfl ?_
      refine T_iconst dX9_askedWitnesses_24 ic_5 ?_
      obtain ⟨r_29, M_30, hc_31, h⟩ := bd2_some h
      refine T_cvi (as := [vI (nI 5)]) dX9_askedWitnesses_25 cw_X9_meet ml_X9_87 mi_X9_meet se_X9_meet lyM_0 rfl (by decide) rfl (Nat.le_of_ble_eq_true rfl) (Nat.le_of_ble_eq_true rfl) (m_X9_meet  M_2 (nI 5)  _ _ hc_31) ?_
      obtain ⟨rfl, rfl⟩ := sm2 h
      exact T_iret dX9_askedWitnesses_28 ⟨rfl, rfl, rfl, rfl⟩
  · have h := it_neg hc h
    refine T_iload_n dX9_askedWitnesses_10 rfl ?_
    obtain ⟨rfl, rfl⟩ := sm2 h
    exact T_iret dX9_askedWitnesses_11 ⟨rfl, rfl, rfl, rfl⟩
def F_X9_doesLie (M : Mem) (x1 : Int32) (x2 : Int32) (x3 : Int32) : Option (Int32) :=
 bd1 (F_X9_rowAt M x1 (x2 + 1)) fun r_1 => bd1 (F_X9_rowAt M x1 (x2 + (nI 2))) fun r_3 => if r_3 = 0 then if x3 = r_1 then some 0
 else some 1
 else if r_3 = 1 then if r_1 ≤ x3 then some 0
 else some 1
 else if x3 ≤ r_1 then some 0
 else some 1
set_option maxRecDepth 100000 in
set_option maxHeartbeats 4000000 in
theorem m_X9_doesLie (M : Mem) (x1 : Int32) (x2 : Int32) (x3 : Int32) (r : Int32) (h : F_X9_doesLie M x1 x2 x3 = some r) : Cal yX9_doesLie cX9_doesLie 6 (some .boolean) 0 2 0 0 false [vR (some 0), vI x1, vI x2, vI x3] LAYM rfm M (eqp (vI r) LAYM rfm M) := by
  refine Cal.of (by decide +kernel) (Nat.le_of_ble_eq_true rfl) (fun h => by cases h) ?_
  unfold F_X9_doesLie at h
  show T RX9 cX9_doesLie 6 (some .boolean) 0 2 0 0 false (eqp (vI r) LAYM rfm M) 0 [aR (some 0), aI x1, aI x2, aI x3, aU, aU] [] LAYM rfm M 0 0
  refine T_aload_n dX9_doesLie_0 rfl ?_
  refine T_iload_n dX9_doesLie_1 rfl ?_
  refine T_iload_n dX9_doesLie_2 rfl ?_
  refine T_iconst dX9_doesLie_3 ic_1 ?_
  refine T_iadd dX9_doesLie_4 ?_
  obtain ⟨r_1, hc_2, h⟩ := bd1_some h
  refine T_cvi (as := [vI x1, vI (x2 + 1)]) dX9_doesLie_5 cw_X9_rowAt ml_X9_101 mi_X9_rowAt se_X9_rowAt lyM_0 rfl (by decide) rfl (Nat.le_of_ble_eq_true rfl) (Nat.le_of_ble_eq_true rfl) (m_X9_rowAt  M x1 (x2 + 1)  _ hc_2) ?_
  refine T_istore (i := 4) (L' := [aR (some 0), aI x1, aI x2, aI x3, aI r_1, aU]) dX9_doesLie_8 (Nat.le_of_ble_eq_true rfl) rfl ?_
  refine T_aload_n dX9_doesLie_10 rfl ?_
  refine T_iload_n dX9_doesLie_11 rfl ?_
  refine T_iload_n dX9_doesLie_12 rfl ?_
  refine T_iconst dX9_doesLie_13 ic_2 ?_
  refine T_iadd dX9_doesLie_14 ?_
  obtain ⟨r_3, hc_4, h⟩ := bd1_some h
  refine T_cvi (as := [vI x1, vI (x2 + (nI 2))]) dX9_doesLie_15 cw_X9_rowAt ml_X9_101 mi_X9_rowAt se_X9_rowAt lyM_0 rfl (by decide) rfl (Nat.le_of_ble_eq_true rfl) (Nat.le_of_ble_eq_true rfl) (m_X9_rowAt  M x1 (x2 + (nI 2))  _ hc_4) ?_
  refine T_istore (i := 5) (L' := [aR (some 0), aI x1, aI x2, aI x3, aI r_1, aI r_3]) dX9_doesLie_18 (Nat.le_of_ble_eq_true rfl) rfl ?_
  refine T_iload dX9_doesLie_20 rfl ?_
  refine T_if_ne (tgt := 39) dX9_doesLie_22 (by decide) (fun hc => ?_) (fun hc => ?_)
  · have h := it_neg hc h
    refine T_iload dX9_doesLie_39 rfl ?_
    refine T_iconst dX9_doesLie_41 ic_1 ?_
    refine T_icmp_ne (tgt := 59) dX9_doesLie_42 (by decide) (fun hc => ?_) (fun hc => ?_)
    · have h := it_neg hc h
      refine T_iload_n dX9_doesLie_59 rfl ?_
      refine T_iload dX9_doesLie_60 rfl ?_
      refine T_icmp_le (tgt := 69) dX9_doesLie_62 (by decide) (fun hc => ?_) (fun hc => ?_)
      · have h := it_pos hc h
        refine T_iconst dX9_doesLie_69 ic_0 ?_
        obtain rfl := sm1 h
        exact T_zret dX9_doesLie_70 (Or.inl rfl) ⟨rfl, rfl, rfl, rfl⟩
      · have h := it_neg hc h
        refine T_iconst dX9_doesLie_65 ic_1 ?_
        refine T_goto (tgt := 70) dX9_doesLie_66 (by decide) ?_
        obtain rfl := sm1 h
        exact T_zret dX9_doesLie_70 (Or.inr rfl) ⟨rfl, rfl, rfl, rfl⟩
    · have h := it_pos hc h
      refine T_iload_n dX9_doesLie_45 rfl ?_
      refine T_iload dX9_doesLie_46 rfl ?_
      refine T_icmp_ge (tgt := 55) dX9_doesLie_48 (by decide) (fun hc => ?_) (fun hc => ?_)
      · have h := it_pos hc h
        refine T_iconst dX9_doesLie_55 ic_0 ?_
        refine T_goto (tgt := 70) dX9_doesLie_56 (by decide) ?_
        obtain rfl := sm1 h
        exact T_zret dX9_doesLie_70 (Or.inl rfl) ⟨rfl, rfl, rfl, rfl⟩
      · have h := it_neg hc h
        refine T_iconst dX9_doesLie_51 ic_1 ?_
        refine T_goto (tgt := 70) dX9_doesLie_52 (by decide) ?_
        obtain rfl := sm1 h
        exact T_zret dX9_doesLie_70 (Or.inr rfl) ⟨rfl, rfl, rfl, rfl⟩
  · have h := it_pos hc h
    refine T_iload_n dX9_doesLie_25 rfl ?_
    refine T_iload dX9_doesLie_26 rfl ?_
    refine T_icmp_eq (tgt := 35) dX9_doesLie_28 (by decide) (fun hc => ?_) (fun hc => ?_)
    · have h := it_pos hc h
      refine T_iconst dX9_doesLie_35 ic_0 ?_
      refine T_goto (tgt := 70) dX9_doesLie_36 (by decide) ?_
      obtain rfl := sm1 h
      exact T_zret dX9_doesLie_70 (Or.inl rfl) ⟨rfl, rfl, rfl, rfl⟩
    · have h := it_neg hc h
      refine T_iconst dX9_doesLie_31 ic_1 ?_
      refine T_goto (tgt := 70) dX9_doesLie_32 (by decide) ?_
      obtain rfl := sm1 h
      exact T_zret dX9_doesLie_70 (Or.inr rfl) ⟨rfl, rfl, rfl, rfl⟩
def X9_liesBy_L6 (M : Mem) (x1 : Int32) (p2 : Nat) (x3 : Int32) : Int32 × Int32 → Option ((Int32 × Int32) ⊕ (Int32))
  | (x4, x5) =>
    chk (inb x1 6 = true) (if (gI M 2 x1.toNatClampNeg) ≤ x5 then some (.inr x4)
    else bd1 (F_X9_rowAt M x1 x5) fun r_2 => chk (inb (x3 + r_2) (alM p2) = true) (bd1 (F_X9_doesLie M x1 x5 (gI M p2 (x3 + r_2).toNatClampNeg)) fun r_5 => if r_5 = 0 then lett (x4 + 0) fun x_7 => lett (x5 + (nI 3)) fun x_9 => some (.inl (x_7, x_9))
    else lett (x4 + 1) fun x_11 => lett (x5 + (nI 3)) fun x_13 => some (.inl (x_11, x_13))))
def F_X9_liesBy (M : Mem) (x1 : Int32) (p2 : Nat) (x3 : Int32) : Option (Int32) :=
 loop (X9_liesBy_L6 M x1 p2 x3) FU (0, 0)
set_option maxRecDepth 100000 in
set_option maxHeartbeats 4000000 in
theorem s_X9_liesBy_L6 (M : Mem) (x1 : Int32) (p2 : Nat) (x3 : Int32) (h2 : isAM p2 = true) (x4 : Int32) (x5 : Int32) {Po : Po_} (x : (Int32 × Int32) ⊕ (Int32)) (h : X9_liesBy_L6 M x1 p2 x3 (x4, x5) = some x) (hI : ∀ (ix4 : Int32) (ix5 : Int32), x = .inl (ix4, ix5) → T RX9 cX9_liesBy 6 (some .int) 0 3 0 0 false Po 6 [aR (some 0), aI x1, aR (some p2), aI x3, aI ix4, aI ix5] [] LAYM rfm M 0 0) (hE0 : ∀ (er : Int32), x = .inr er → Po (vI er) LAYM rfm M) : T RX9 cX9_liesBy 6 (some .int) 0 3 0 0 false Po 6 [aR (some 0), aI x1, aR (some p2), aI x3, aI x4, aI x5] [] LAYM rfm M 0 0 := by
  unfold X9_liesBy_L6 at h
  simp only at h
  refine T_iload dX9_liesBy_6 rfl ?_
  refine T_aload_n dX9_liesBy_8 rfl ?_
  refine T_getR dX9_liesBy_9 clOK_X9 fl_X9_17 lyM_0 rfl rfl ?_
  refine T_iload_n dX9_liesBy_12 rfl ?_
  obtain ⟨hi_1, h⟩ := chk_some h
  refine T_iald dX9_liesBy_13 lyM_2 (inb_in hi_1) ?_
  refine T_icmp_ge (tgt := 54) dX9_liesBy_14 (by decide) (fun hc => ?_) (fun hc => ?_)
  · have h := it_pos hc h
    refine T_iload dX9_liesBy_54 rfl ?_
    obtain rfl := sm1 h
    exact T_iret dX9_liesBy_56 (hE0 _ rfl)
  · have h := it_neg hc h
    refine T_iload dX9_liesBy_17 rfl ?_
    refine T_aload_n dX9_liesBy_19 rfl ?_
    refine T_iload_n dX9_liesBy_20 rfl ?_
    refine T_iload dX9_liesBy_21 rfl ?_
    refine T_aload_n dX9_liesBy_23 rfl ?_
    refine T_iload_n dX9_liesBy_24 rfl ?_
    refine T_aload_n dX9_liesBy_25 rfl ?_
    refine T_iload_n dX9_liesBy_26 rfl ?_
    refine T_iload dX9_liesBy_27 rfl ?_
    obtain ⟨r_2, hc_3, h⟩ := bd1_some h
    refine T_cvi (as := [vI x1, vI x5]) dX9_liesBy_29 cw_X9_rowAt ml_X9_101 mi_X9_rowAt se_X9_rowAt lyM_0 rfl (by decide) rfl (Nat.le_of_ble_eq_true rfl) (Nat.le_of_ble_eq_true rfl) (m_X9_rowAt  M x1 x5  _ hc_3) ?_
    refine T_iadd dX9_liesBy_32 ?_
    obtain ⟨hi_4, h⟩ := chk_some h
    refine T_iald dX9_liesBy_33 (lyAM h2) (inb_in hi_4) ?_
    obtain ⟨r_5, hc_6, h⟩ := bd1_some h
    refine T_cvi (as := [vI x1, vI x5, vI (gI M p2 (x3 + r_2).toNatClampNeg)]) dX9_liesBy_34 cw_X9_doesLie ml_X9_316 mi_X9_doesLie se_X9_doesLie lyM_0 rfl (by decide) rfl (Nat.le_of_ble_eq_true rfl) (Nat.le_of_ble_eq_true rfl) (m_X9_doesLie  M x1 x5 (gI M p2 (x3 + r_2).toNatClampNeg)  _ hc_6) ?_
    refine T_if_eq (tgt := 44) dX9_liesBy_37 (by decide) (fun hc => ?_) (fun hc => ?_)
    · have h := it_pos hc h
      refine T_iconst dX9_liesBy_44 ic_0 ?_
      refine T_iadd dX9_liesBy_45 ?_
      obtain ⟨x_7, ex_8, h⟩ := lett_some h
      refine T_topI ex_8 ?_
      refine T_istore (i := 4) (L' := [aR (some 0), aI x1, aR (some p2), aI x3, aI x_7, aI x5]) dX9_liesBy_46 (Nat.le_of_ble_eq_true rfl) rfl ?_
      obtain ⟨x_9, ex_10, h⟩ := lett_some h
      refine T_iinc (L' := [aR (some 0), aI x1, aR (some p2), aI x3, aI x_7, aI x_9]) dX9_liesBy_48 rfl (ic_inc ic_3 ex_10) (Nat.le_of_ble_eq_true rfl) rfl ?_
      refine T_goto (tgt := 6) dX9_liesBy_51 (by decide) ?_
      obtain rfl := sm1 h
      exact hI _ _ rfl
    · have h := it_neg hc h
      refine T_iconst dX9_liesBy_40 ic_1 ?_
      refine T_goto (tgt := 45) dX9_liesBy_41 (by decide) ?_
      refine T_iadd dX9_liesBy_45 ?_
      obtain ⟨x_11, ex_12, h⟩ := lett_some h
      refine T_topI ex_12 ?_
      refine T_istore (i := 4) (L' := [aR (some 0), aI x1, aR (some p2), aI x3, aI x_11, aI x5]) dX9_liesBy_46 (Nat.le_of_ble_eq_true rfl) rfl ?_
      obtain ⟨x_13, ex_14, h⟩ := lett_some h
      refine T_iinc (L' := [aR (some 0), aI x1, aR (some p2), aI x3, aI x_11, aI x_13]) dX9_liesBy_48 rfl (ic_inc ic_3 ex_14) (Nat.le_of_ble_eq_true rfl) rfl ?_
      refine T_goto (tgt := 6) dX9_liesBy_51 (by decide) ?_
      obtain rfl := sm1 h
      exact hI _ _ rfl
set_option maxRecDepth 100000 in
set_option maxHeartbeats 4000000 in
theorem l_X9_liesBy_L6 (M : Mem) (x1 : Int32) (p2 : Nat) (x3 : Int32) (h2 : isAM p2 = true) {Po : Po_} (er : Int32) : ∀ (k : Nat) (x4 : Int32) (x5 : Int32), loop (X9_liesBy_L6 M x1 p2 x3) k (x4, x5) = some er → (Po (vI er) LAYM rfm M) → T RX9 cX9_liesBy 6 (some .int) 0 3 0 0 false Po 6 [aR (some 0), aI x1, aR (some p2), aI x3, aI x4, aI x5] [] LAYM rfm M 0 0 := by
  intro k
  induction k with
  | zero => intro x4 x5 h; cases h
  | succ k ih =>
    intro x4 x5 h hE
    obtain ⟨x, hx, hx1, hx2⟩ := loop_succ h
    exact s_X9_liesBy_L6  M x1 p2 x3 h2 x4 x5 x hx (fun q0 q1 e => ih q0 q1 (hx1 _ e) hE) (fun q0 e => by cases hx2 _ e; exact hE)
set_option maxRecDepth 100000 in
set_option maxHeartbeats 4000000 in
theorem m_X9_liesBy (M : Mem) (x1 : Int32) (p2 : Nat) (x3 : Int32) (h2 : isAM p2 = true) (r : Int32) (h : F_X9_liesBy M x1 p2 x3 = some r) : Cal yX9_liesBy cX9_liesBy 6 (some .int) 0 3 0 0 false [vR (some 0), vI x1, vR (some p2), vI x3] LAYM rfm M (eqp (vI r) LAYM rfm M) := by
  refine Cal.of (by decide +kernel) (Nat.le_of_ble_eq_true rfl) (fun h => by cases h) ?_
  unfold F_X9_liesBy at h
  show T RX9 cX9_liesBy 6 (some .int) 0 3 0 0 false (eqp (vI r) LAYM rfm M) 0 [aR (some 0), aI x1, aR (some p2), aI x3, aU, aU] [] LAYM rfm M 0 0
  refine T_iconst dX9_liesBy_0 ic_0 ?_
  refine T_istore (i := 4) (L' := [aR (some 0), aI x1, aR (some p2), aI x3, aI 0, aU]) dX9_liesBy_1 (Nat.le_of_ble_eq_true rfl) rfl ?_
  refine T_iconst dX9_liesBy_3 ic_0 ?_
  refine T_istore (i := 5) (L' := [aR (some 0), aI x1, aR (some p2), aI x3, aI 0, aI 0]) dX9_liesBy_4 (Nat.le_of_ble_eq_true rfl) rfl ?_
  exact l_X9_liesBy_L6  M x1 p2 x3 h2 _ FU 0 0 h ⟨rfl, rfl, rfl, rfl⟩
def X9_lies_L25 (M : Mem) (x1 : Int32) : Int32 × Int32 → Option ((Int32 × Int32) ⊕ (Int32))
  | (x3, x4) =>
    if x4 < 0 then some (.inr x3)
    else bd1 (F_X9_rowAt M x1 x4) fun r_7 => chk (inb r_7 16 = true) (bd1 (F_X9_doesLie M x1 x4 (gI M 7 r_7.toNatClampNeg)) fun r_10 => if r_10 = 0 then lett (x4 + (-3)) fun x_12 => some (.inl (x3, x_12))
    else lett (x4 / (nI 3)) fun x_14 => lett (x4 + (-3)) fun x_16 => some (.inl (x_14, x_16)))
def F_X9_lies (M : Mem) (x1 : Int32) : Option (Int32 × Mem) :=
 bd2 (F_X9_askedWitnesses M x1) fun r_1 M_2 => if 0 ≤ r_1 then chk (inb x1 6 = true) (lett ((gI M_2 2 x1.toNatClampNeg) - (nI 3)) fun x_5 => bd1 (loop (X9_lies_L25 M_2 x1) FU ((-9), x_5)) fun x_18 => bd1 (F_X9_liesBy M_2 x1 7 0) fun r_19 => bd2 (F_X9_ask M_2 x_18 r_19) fun r_21 M_22 => some (r_21, M_22))
 else some (r_1, M_2)
set_option maxRecDepth 100000 in
set_option maxHeartbeats 4000000 in
theorem s_X9_lies_L25 (M : Mem) (x1 : Int32) (x3 : Int32) (x4 : Int32) {Po : Po_} (x : (Int32 × Int32) ⊕ (Int32)) (h : X9_lies_L25 M x1 (x3, x4) = some x) (hI : ∀ (ix3 : Int32) (ix4 : Int32), x = .inl (ix3, ix4) → T RX9 cX9_lies 5 (some .int) 0 5 0 0 false Po 25 [aR (some 0), aI x1, aU, aI ix3, aI ix4] [] LAYM rfm M 0 0) (hE0 : ∀ (e3 : Int32), x = .inr e3 → T RX9 cX9_lies 5 (some .int) 0 5 0 0 false Po 67 [aR (some 0), aI x1, aU, aI e3, aU] [] LAYM rfm M 0 0) : T RX9 cX9_lies 5 (some .int) 0 5 0 0 false Po 25 [aR (some 0), aI x1, aU, aI x3, aI x4] [] LAYM rfm M 0 0 := by
  unfold X9_lies_L25 at h
  simp only at h
  refine T_iload dX9_lies_25 rfl ?_
  refine T_if_lt (tgt := 67) dX9_lies_27 (by decide) (fun hc => ?_) (fun hc => ?_)
  · have h := it_pos hc h
    obtain rfl := sm1 h
    refine T_mask [true, true, true, true, false] rfl ?_
    exact hE0 _ rfl
  · have h := it_neg hc h
    refine T_aload_n dX9_lies_30 rfl ?_
    refine T_iload_n dX9_lies_31 rfl ?_
    refine T_iload dX9_lies_32 rfl ?_
    refine T_aload_n dX9_lies_34 rfl ?_
    refine T_getR dX9_lies_35 clOK_X9 fl_X9_32 lyM_0 rfl rfl ?_
    refine T_aload_n dX9_lies_38 rfl ?_
    refine T_iload_n dX9_lies_39 rfl ?_
    refine T_iload dX9_lies_40 rfl ?_
    obtain ⟨r_7, hc_8, h⟩ := bd1_some h
    refine T_cvi (as := [vI x1, vI x4]) dX9_lies_42 cw_X9_rowAt ml_X9_101 mi_X9_rowAt se_X9_rowAt lyM_0 rfl (by decide) rfl (Nat.le_of_ble_eq_true rfl) (Nat.le_of_ble_eq_true rfl) (m_X9_rowAt  M x1 x4  _ hc_8) ?_
    obtain ⟨hi_9, h⟩ := chk_some h
    refine T_iald dX9_lies_45 lyM_7 (inb_in hi_9) ?_
    obtain ⟨r_10, hc_11, h⟩ := bd1_some h
    refine T_cvi (as := [vI x1, vI x4, vI (gI M 7 r_7.toNatClampNeg)]) dX9_lies_46 cw_X9_doesLie ml_X9_316 mi_X9_doesLie se_X9_doesLie lyM_0 rfl (by decide) rfl (Nat.le_of_ble_eq_true rfl) (Nat.le_of_ble_eq_true rfl) (m_X9_doesLie  M x1 x4 (gI M 7 r_7.toNatClampNeg)  _ hc_11) ?_
    refine T_if_eq (tgt := 59) dX9_lies_49 (by decide) (fun hc => ?_) (fun hc => ?_)
    · have h := it_pos hc h
      refine T_iload_n dX9_lies_59 rfl ?_
      refine T_istore_n (i := 3) (L' := [aR (some 0), aI x1, aU, aI x3, aI x4]) dX9_lies_60 rfl (Nat.le_of_ble_eq_true rfl) rfl ?_
      obtain ⟨x_12, ex_13, h⟩ := lett_some h
      refine T_iinc (L' := [aR (some 0), aI x1, aU, aI x3, aI x_12]) dX9_lies_61 rfl (ic_inc ic_m3 ex_13) (Nat.le_of_ble_eq_true rfl) rfl ?_
      refine T_goto (tgt := 25) dX9_lies_64 (by decide) ?_
      obtain rfl := sm1 h
      exact hI _ _ rfl
    · have h := it_neg hc h
      refine T_iload dX9_lies_52 rfl ?_
      refine T_iconst dX9_lies_54 ic_3 ?_
      refine T_idiv dX9_lies_55 (by decide) ?_
      refine T_goto (tgt := 60) dX9_lies_56 (by decide) ?_
      obtain ⟨x_14, ex_15, h⟩ := lett_some h
      refine T_topI ex_15 ?_
      refine T_istore_n (i := 3) (L' := [aR (some 0), aI x1, aU, aI x_14, aI x4]) dX9_lies_60 rfl (Nat.le_of_ble_eq_true rfl) rfl ?_
      obtain ⟨x_16, ex_17, h⟩ := lett_some h
      refine T_iinc (L' := [aR (some 0), aI x1, aU, aI x_14, aI x_16]) dX9_lies_61 rfl (ic_inc ic_m3 ex_17) (Nat.le_of_ble_eq_true rfl) rfl ?_
      refine T_goto (tgt := 25) dX9_lies_64 (by decide) ?_
      obtain rfl := sm1 h
      exact hI _ _ rfl
set_option maxRecDepth 100000 in
set_option maxHeartbeats 4000000 in
theorem l_X9_lies_L25 (M : Mem) (x1 : Int32) {Po : Po_} (e3 : Int32) : ∀ (k : Nat) (x3 : Int32) (x4 : Int32), loop (X9_lies_L25 M x1) k (x3, x4) = some e3 → (T RX9 cX9_lies 5 (some .int) 0 5 0 0 false Po 67 [aR (some 0), aI x1, aU, aI e3, aU] [] LAYM rfm M 0 0) → T RX9 cX9_lies 5 (some .int) 0 5 0 0 false Po 25 [aR (some 0), aI x1, aU, aI x3, aI x4] [] LAYM rfm M 0 0 := by
  intro k
  induction k with
  | zero => intro x3 x4 h; cases h
  | succ k ih =>
    intro x3 x4 h hE
    obtain ⟨x, hx, hx1, hx2⟩ := loop_succ h
    exact s_X9_lies_L25  M x1  x3 x4 x hx (fun q0 q1 e => ih q0 q1 (hx1 _ e) hE) (fun q0 e => by cases hx2 _ e; exact hE)
set_option maxRecDepth 100000 in
set_option maxHeartbeats 4000000 in
theorem m_X9_lies (M : Mem) (x1 : Int32) (r : Int32) (M' : Mem) (h : F_X9_lies M x1 = some (r, M')) : Cal yX9_lies cX9_lies 5 (some .int) 0 5 0 0 false [vR (some 0), vI x1] LAYM rfm M (eqp (vI r) LAYM rfm M') := by
  refine Cal.of (by decide +kernel) (Nat.le_of_ble_eq_true rfl) (fun h => by cases h) ?_
  unfold F_X9_lies at h
  show T RX9 cX9_lies 5 (some .int) 0 5 0 0 false (eqp (vI r) LAYM rfm M') 0 [aR (some 0), aI x1, aU, aU, aU] [] LAYM rfm M 0 0
  refine T_aload_n dX9_lies_0 rfl ?_
  refine T_iload_n dX9_lies_1 rfl ?_
  obtain ⟨r_1, M_2, hc_3, h⟩ := bd2_some h
  refine T_cvi (as := [vI x1]) dX9_lies_2 cw_X9_askedWitnesses ml_X9_319 mi_X9_askedWitnesses se_X9_askedWitnesses lyM_0 rfl (by decide) rfl (Nat.le_of_ble_eq_true rfl) (Nat.le_of_ble_eq_true rfl) (m_X9_askedWitnesses  M x1  _ _ hc_3) ?_
  refine T_istore_n (i := 2) (L' := [aR (some 0), aI x1, aI r_1, aU, aU]) dX9_lies_5 rfl (Nat.le_of_ble_eq_true rfl) rfl ?_
  refine T_iload_n dX9_lies_6 rfl ?_
  refine T_if_ge (tgt := 12) dX9_lies_7 (by decide) (fun hc => ?_) (fun hc => ?_)
  · have h := it_pos hc h
    refine T_bipush dX9_lies_12 bp_m9 ?_
    refine T_istore_n (i := 3) (L' := [aR (some 0), aI x1, aI r_1, aI (-9), aU]) dX9_lies_14 rfl (Nat.le_of_ble_eq_true rfl) rfl ?_
    refine T_aload_n dX9_lies_15 rfl ?_
    refine T_getR dX9_lies_16 clOK_X9 fl_X9_17 lyM_0 rfl rfl ?_
    refine T_iload_n dX9_lies_19 rfl ?_
    obtain ⟨hi_4, h⟩ := chk_some h
    refine T_iald dX9_lies_20 lyM_2 (inb_in hi_4) ?_
    refine T_iconst dX9_lies_21 ic_3 ?_
    refine T_isub dX9_lies_22 ?_
    obtain ⟨x_5, ex_6, h⟩ := lett_some h
    refine T_topI ex_6 ?_
    refine T_istore (i := 4) (L' := [aR (some 0), aI x1, aI r_1, aI (-9), aI x_5]) dX9_lies_23 (Nat.le_of_ble_eq_true rfl) rfl ?_
    obtain ⟨x_18, hl, h⟩ := bd1_some h
    refine T_mask [true, true, false, true, true] rfl ?_
    refine l_X9_lies_L25  M_2 x1  _ FU (-9) x_5 hl ?_
    refine T_aload_n dX9_lies_67 rfl ?_
    refine T_iload_n dX9_lies_68 rfl ?_
    refine T_aload_n dX9_lies_69 rfl ?_
    refine T_iload_n dX9_lies_70 rfl ?_
    refine T_aload_n dX9_lies_71 rfl ?_
    refine T_getR dX9_lies_72 clOK_X9 fl_X9_32 lyM_0 rfl rfl ?_
    refine T_iconst dX9_lies_75 ic_0 ?_
    obtain ⟨r_19, hc_20, h⟩ := bd1_some h
    refine T_cvi (as := [vI x1, vR (some 7), vI 0]) dX9_lies_76 cw_X9_liesBy ml_X9_322 mi_X9_liesBy se_X9_liesBy lyM_0 rfl (by decide) rfl (Nat.le_of_ble_eq_true rfl) (Nat.le_of_ble_eq_true rfl) (m_X9_liesBy  M_2 x1 7 0 rfl _ hc_20) ?_
    obtain ⟨r_21, M_22, hc_23, h⟩ := bd2_some h
    refine T_cvi (as := [vI x_18, vI r_19]) dX9_lies_79 cw_X9_ask ml_X9_105 mi_X9_ask se_X9_ask lyM_0 rfl (by decide) rfl (Nat.le_of_ble_eq_true rfl) (Nat.le_of_ble_eq_true rfl) (m_X9_ask  M_2 x_18 r_19  _ _ hc_23) ?_
    obtain ⟨rfl, rfl⟩ := sm2 h
    exact T_iret dX9_lies_82 ⟨rfl, rfl, rfl, rfl⟩
  · have h := it_neg hc h
    refine T_iload_n dX9_lies_10 rfl ?_
    obtain ⟨rfl, rfl⟩ := sm2 h
    exact T_iret dX9_lies_11 ⟨rfl, rfl, rfl, rfl⟩
