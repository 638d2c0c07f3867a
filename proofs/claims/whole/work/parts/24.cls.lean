def X4_readLine_L16 (p1 : Nat) (x2 : Int32) (x3 : Int32) : Int32 × Mem → Option ((Int32 × Mem) ⊕ (Int32 × Mem))
  | (x4, M) =>
    if x3 ≤ x4 then some (.inr (x4, M))
    else bd1 (F_X4_figure M p1 (nI 5)) fun r_1 => if r_1 < 0 then some (.inr (x4, M))
    else lett ((x2 * (gI M 3 5)) + x4) fun x_3 => if (nI 16) ≤ x_3 then lett (x4 + 1) fun x_5 => lett (sI M 3 3 ((gI M 3 3) + 1)) fun M_7 => some (.inl (x_5, M_7))
    else bd1 (F_X4_figure M p1 (nI 5)) fun r_9 => chk (inb x_3 16 = true) (lett (sI M 4 x_3.toNatClampNeg r_9) fun M_11 => lett (x4 + 1) fun x_14 => lett (sI M_11 3 3 ((gI M_11 3 3) + 1)) fun M_16 => some (.inl (x_14, M_16)))
def X4_readLine_J91 (M : Mem) (x4 : Int32) : Option (Int32 × Mem) :=
 if x4 < (nI 2) then some (0, M)
 else if x4 = (gI M 3 5) then some (1, M)
 else some (0, M)
def X4_readLine_J12 (M : Mem) (p1 : Nat) (x2 : Int32) (s0 : Int32) : Option (Int32 × Mem) :=
 bd2 (loop (X4_readLine_L16 p1 x2 s0) FU (0, M)) fun x_18 M_19 => if x2 = 0 then lett (sI M_19 3 5 x_18) fun M_20 => X4_readLine_J91 M_20 x_18
 else X4_readLine_J91 M_19 x_18
def F_X4_readLine (M : Mem) (p1 : Nat) (x2 : Int32) : Option (Int32 × Mem) :=
 if x2 = 0 then X4_readLine_J12 M p1 x2 (nI 4)
 else X4_readLine_J12 M p1 x2 (gI M 3 5)
set_option maxRecDepth 100000 in
set_option maxHeartbeats 4000000 in
theorem s_X4_readLine_L16 (lw : Nat → Option Nat) (tl : Option Nat) (tt : Option Nat) (p1 : Nat) (x2 : Int32) (x3 : Int32) (h1 : isX5 p1 = true) (x4 : Int32) (M : Mem) {Po : Po_} (x : (Int32 × Mem) ⊕ (Int32 × Mem)) (h : X4_readLine_L16 p1 x2 x3 (x4, M) = some x) (hI : ∀ (ix4 : Int32) (iM : Mem), x = .inl (ix4, iM) → T RX4 cX4_readLine 6 (some .boolean) 0 5 0 0 false Po 16 [aR (some 3), aR (some p1), aI x2, aI x3, aI ix4, aU] [] LAYC (rfs lw tl tt) iM 0 0) (hE0 : ∀ (e4 : Int32) (eM : Mem), x = .inr (e4, eM) → T RX4 cX4_readLine 6 (some .boolean) 0 5 0 0 false Po 81 [aR (some 3), aU, aI x2, aU, aI e4, aU] [] LAYC (rfs lw tl tt) eM 0 0) : T RX4 cX4_readLine 6 (some .boolean) 0 5 0 0 false Po 16 [aR (some 3), aR (some p1), aI x2, aI x3, aI x4, aU] [] LAYC (rfs lw tl tt) M 0 0 := by
  unfold X4_readLine_L16 at h
  simp only at h
  refine T_iload dX4_readLine_16 rfl ?_
  refine T_iload_n dX4_readLine_18 rfl ?_
  refine T_icmp_ge (tgt := 81) dX4_readLine_19 (by decide) (fun hc => ?_) (fun hc => ?_)
  · have h := it_pos hc h
    obtain rfl := sm1 h
    refine T_mask [true, false, true, false, true, true] rfl ?_
    exact hE0 _ _ rfl
  · have h := it_neg hc h
    refine T_aload_n dX4_readLine_22 rfl ?_
    refine T_aload_n dX4_readLine_23 rfl ?_
    refine T_iconst dX4_readLine_24 ic_5 ?_
    obtain ⟨r_1, hc_2, h⟩ := bd1_some h
    refine T_cvi (as := [vR (some p1), vI (nI 5)]) dX4_readLine_25 cw_X4_figure ml_X4_70 mi_X4_figure se_X4_figure lyC_3 rfl (by decide) rfl (Nat.le_of_ble_eq_true rfl) (Nat.le_of_ble_eq_true rfl) (m_X4_figure lw tl tt M p1 (nI 5) h1 _ hc_2) ?_
    refine T_if_lt (tgt := 81) dX4_readLine_28 (by decide) (fun hc => ?_) (fun hc => ?_)
    · have h := it_pos hc h
      obtain rfl := sm1 h
      refine T_mask [true, false, true, false, true, true] rfl ?_
      exact hE0 _ _ rfl
    · have h := it_neg hc h
      refine T_iload_n dX4_readLine_31 rfl ?_
      refine T_aload_n dX4_readLine_32 rfl ?_
      refine T_getI dX4_readLine_33 clOK_X4 fl_X4_28 lyC_3 rfl ?_
      refine T_imul dX4_readLine_36 ?_
      refine T_iload dX4_readLine_37 rfl ?_
      refine T_iadd dX4_readLine_39 ?_
      obtain ⟨x_3, ex_4, h⟩ := lett_some h
      refine T_topI ex_4 ?_
      refine T_istore (i := 5) (L' := [aR (some 3), aR (some p1), aI x2, aI x3, aI x4, aI x_3]) dX4_readLine_40 (Nat.le_of_ble_eq_true rfl) rfl ?_
      refine T_iload dX4_readLine_42 rfl ?_
      refine T_aload_n dX4_readLine_44 rfl ?_
      refine T_getR dX4_readLine_45 clOK_X4 fl_X4_9 lyC_3 rfl rfl ?_
      refine T_alen dX4_readLine_48 lyC_4 (Or.inl rfl) rfl ?_
      refine T_icmp_ge (tgt := 65) dX4_readLine_49 (by decide) (fun hc => ?_) (fun hc => ?_)
      · have h := it_pos hc h
        obtain ⟨x_5, ex_6, h⟩ := lett_some h
        refine T_iinc (L' := [aR (some 3), aR (some p1), aI x2, aI x3, aI x_5, aI x_3]) dX4_readLine_65 rfl (ic_inc ic_1 ex_6) (Nat.le_of_ble_eq_true rfl) rfl ?_
        refine T_aload_n dX4_readLine_68 rfl ?_
        refine T_dup dX4_readLine_69 rfl ?_
        refine T_getI dX4_readLine_70 clOK_X4 fl_X4_21 lyC_3 rfl ?_
        refine T_iconst dX4_readLine_73 ic_1 ?_
        refine T_iadd dX4_readLine_74 ?_
        obtain ⟨M_7, eM_8, h⟩ := lett_some h
        refine T_putI dX4_readLine_75 clOK_X4 fl_X4_21 (Or.inl rfl) lyC_3 rfl rfl eM_8 ?_
        refine T_goto (tgt := 16) dX4_readLine_78 (by decide) ?_
        obtain rfl := sm1 h
        refine T_mask [true, true, true, true, true, false] rfl ?_
        exact hI _ _ rfl
      · have h := it_neg hc h
        refine T_aload_n dX4_readLine_52 rfl ?_
        refine T_getR dX4_readLine_53 clOK_X4 fl_X4_9 lyC_3 rfl rfl ?_
        refine T_iload dX4_readLine_56 rfl ?_
        refine T_aload_n dX4_readLine_58 rfl ?_
        refine T_aload_n dX4_readLine_59 rfl ?_
        refine T_iconst dX4_readLine_60 ic_5 ?_
        obtain ⟨r_9, hc_10, h⟩ := bd1_some h
        refine T_cvi (as := [vR (some p1), vI (nI 5)]) dX4_readLine_61 cw_X4_figure ml_X4_70 mi_X4_figure se_X4_figure lyC_3 rfl (by decide) rfl (Nat.le_of_ble_eq_true rfl) (Nat.le_of_ble_eq_true rfl) (m_X4_figure lw tl tt M p1 (nI 5) h1 _ hc_10) ?_
        obtain ⟨hi_13, h⟩ := chk_some h
        obtain ⟨M_11, eM_12, h⟩ := lett_some h
        refine T_iast dX4_readLine_64 lyC_4 (inb_in hi_13) eM_12 ?_
        obtain ⟨x_14, ex_15, h⟩ := lett_some h
        refine T_iinc (L' := [aR (some 3), aR (some p1), aI x2, aI x3, aI x_14, aI x_3]) dX4_readLine_65 rfl (ic_inc ic_1 ex_15) (Nat.le_of_ble_eq_true rfl) rfl ?_
        refine T_aload_n dX4_readLine_68 rfl ?_
        refine T_dup dX4_readLine_69 rfl ?_
        refine T_getI dX4_readLine_70 clOK_X4 fl_X4_21 lyC_3 rfl ?_
        refine T_iconst dX4_readLine_73 ic_1 ?_
        refine T_iadd dX4_readLine_74 ?_
        obtain ⟨M_16, eM_17, h⟩ := lett_some h
        refine T_putI dX4_readLine_75 clOK_X4 fl_X4_21 (Or.inl rfl) lyC_3 rfl rfl eM_17 ?_
        refine T_goto (tgt := 16) dX4_readLine_78 (by decide) ?_
        obtain rfl := sm1 h
        refine T_mask [true, true, true, true, true, false] rfl ?_
        exact hI _ _ rfl
set_option maxRecDepth 100000 in
set_option maxHeartbeats 4000000 in
theorem l_X4_readLine_L16 (lw : Nat → Option Nat) (tl : Option Nat) (tt : Option Nat) (p1 : Nat) (x2 : Int32) (x3 : Int32) (h1 : isX5 p1 = true) {Po : Po_} (e4 : Int32) (eM : Mem) : ∀ (k : Nat) (x4 : Int32) (M : Mem), loop (X4_readLine_L16 p1 x2 x3) k (x4, M) = some (e4, eM) → (T RX4 cX4_readLine 6 (some .boolean) 0 5 0 0 false Po 81 [aR (some 3), aU, aI x2, aU, aI e4, aU] [] LAYC (rfs lw tl tt) eM 0 0) → T RX4 cX4_readLine 6 (some .boolean) 0 5 0 0 false Po 16 [aR (some 3), aR (some p1), aI x2, aI x3, aI x4, aU] [] LAYC (rfs lw tl tt) M 0 0 := by
  intro k
  induction k with
  | zero => intro x4 M h; cases h
  | succ k ih =>
    intro x4 M h hE
    obtain ⟨x, hx, hx1, hx2⟩ := loop_succ h
    exact s_X4_readLine_L16  lw tl tt p1 x2 x3 h1 x4 M x hx (fun q0 q1 e => ih q0 q1 (hx1 _ e) hE) (fun q0 q1 e => by cases hx2 _ e; exact hE)
set_option maxRecDepth 100000 in
set_option maxHeartbeats 4000000 in
theorem j_X4_readLine_J91 (lw : Nat → Option Nat) (tl : Option Nat) (tt : Option Nat) (M : Mem) (x4 : Int32) (r : Int32) (M' : Mem) (h : X4_readLine_J91 M x4 = some (r, M')) : T RX4 cX4_readLine 6 (some .boolean) 0 5 0 0 false (eqp (vI r) LAYC (rfs lw tl tt) M') 91 [aR (some 3), aU, aU, aU, aI x4, aU] [] LAYC (rfs lw tl tt) M 0 0 := by
  unfold X4_readLine_J91 at h
  refine T_iload dX4_readLine_91 rfl ?_
  refine T_iconst dX4_readLine_93 ic_2 ?_
  refine T_icmp_lt (tgt := 110) dX4_readLine_94 (by decide) (fun hc => ?_) (fun hc => ?_)
  · have h := it_pos hc h
    refine T_iconst dX4_readLine_110 ic_0 ?_
    obtain ⟨rfl, rfl⟩ := sm2 h
    exact T_zret dX4_readLine_111 (Or.inl rfl) ⟨rfl, rfl, rfl, rfl⟩
  · have h := it_neg hc h
    refine T_iload dX4_readLine_97 rfl ?_
    refine T_aload_n dX4_readLine_99 rfl ?_
    refine T_getI dX4_readLine_100 clOK_X4 fl_X4_28 lyC_3 rfl ?_
    refine T_icmp_ne (tgt := 110) dX4_readLine_103 (by decide) (fun hc => ?_) (fun hc => ?_)
    · have h := it_neg hc h
      refine T_iconst dX4_readLine_110 ic_0 ?_
      obtain ⟨rfl, rfl⟩ := sm2 h
      exact T_zret dX4_readLine_111 (Or.inl rfl) ⟨rfl, rfl, rfl, rfl⟩
    · have h := it_pos hc h
      refine T_iconst dX4_readLine_106 ic_1 ?_
      refine T_goto (tgt := 111) dX4_readLine_107 (by decide) ?_
      obtain ⟨rfl, rfl⟩ := sm2 h
      exact T_zret dX4_readLine_111 (Or.inr rfl) ⟨rfl, rfl, rfl, rfl⟩
set_option maxRecDepth 100000 in
set_option maxHeartbeats 4000000 in
theorem j_X4_readLine_J12 (lw : Nat → Option Nat) (tl : Option Nat) (tt : Option Nat) (M : Mem) (p1 : Nat) (x2 : Int32) (s0 : Int32) (h1 : isX5 p1 = true) (r : Int32) (M' : Mem) (h : X4_readLine_J12 M p1 x2 s0 = some (r, M')) : T RX4 cX4_readLine 6 (some .boolean) 0 5 0 0 false (eqp (vI r) LAYC (rfs lw tl tt) M') 12 [aR (some 3), aR (some p1), aI x2, aU, aU, aU] [vI s0] LAYC (rfs lw tl tt) M 0 0 := by
  unfold X4_readLine_J12 at h
  refine T_istore_n (i := 3) (L' := [aR (some 3), aR (some p1), aI x2, aI s0, aU, aU]) dX4_readLine_12 rfl (Nat.le_of_ble_eq_true rfl) rfl ?_
  refine T_iconst dX4_readLine_13 ic_0 ?_
  refine T_istore (i := 4) (L' := [aR (some 3), aR (some p1), aI x2, aI s0, aI 0, aU]) dX4_readLine_14 (Nat.le_of_ble_eq_true rfl) rfl ?_
  obtain ⟨x_18, M_19, hl, h⟩ := bd2_some h
  refine l_X4_readLine_L16  lw tl tt p1 x2 s0 h1 _ _ FU 0 M hl ?_
  refine T_iload_n dX4_readLine_81 rfl ?_
  refine T_if_ne (tgt := 91) dX4_readLine_82 (by decide) (fun hc => ?_) (fun hc => ?_)
  · have h := it_neg hc h
    refine T_mask [true, true, false, true, true, true] rfl ?_
    exact j_X4_readLine_J91  lw tl tt M_19 x_18  _ _ h
  · have h := it_pos hc h
    refine T_aload_n dX4_readLine_85 rfl ?_
    refine T_iload dX4_readLine_86 rfl ?_
    obtain ⟨M_20, eM_21, h⟩ := lett_some h
    refine T_putI dX4_readLine_88 clOK_X4 fl_X4_28 (Or.inl rfl) lyC_3 rfl rfl eM_21 ?_
    refine T_mask [true, true, false, true, true, true] rfl ?_
    exact j_X4_readLine_J91  lw tl tt M_20 x_18  _ _ h
set_option maxRecDepth 100000 in
set_option maxHeartbeats 4000000 in
theorem m_X4_readLine (lw : Nat → Option Nat) (tl : Option Nat) (tt : Option Nat) (M : Mem) (p1 : Nat) (x2 : Int32) (h1 : isX5 p1 = true) (r : Int32) (M' : Mem) (h : F_X4_readLine M p1 x2 = some (r, M')) : Cal yX4_readLine cX4_readLine 6 (some .boolean) 0 5 0 0 false [vR (some 3), vR (some p1), vI x2] LAYC (rfs lw tl tt) M (eqp (vI r) LAYC (rfs lw tl tt) M') := by
  refine Cal.of (by decide +kernel) (Nat.le_of_ble_eq_true rfl) (fun h => by cases h) ?_
  unfold F_X4_readLine at h
  show T RX4 cX4_readLine 6 (some .boolean) 0 5 0 0 false (eqp (vI r) LAYC (rfs lw tl tt) M') 0 [aR (some 3), aR (some p1), aI x2, aU, aU, aU] [] LAYC (rfs lw tl tt) M 0 0
  refine T_iload_n dX4_readLine_0 rfl ?_
  refine T_if_ne (tgt := 8) dX4_readLine_1 (by decide) (fun hc => ?_) (fun hc => ?_)
  · have h := it_neg hc h
    refine T_aload_n dX4_readLine_8 rfl ?_
    refine T_getI dX4_readLine_9 clOK_X4 fl_X4_28 lyC_3 rfl ?_
    exact j_X4_readLine_J12  lw tl tt M p1 x2 (gI M 3 5) h1 _ _ h
  · have h := it_pos hc h
    refine T_iconst dX4_readLine_4 ic_4 ?_
    refine T_goto (tgt := 12) dX4_readLine_5 (by decide) ?_
    exact j_X4_readLine_J12  lw tl tt M p1 x2 (nI 4) h1 _ _ h
def X4_readLines_L2 (p1 : Nat) : Int32 × Mem → Option ((Int32 × Mem) ⊕ (Int32 × Mem))
  | (x2, M) =>
    if (nI 4) ≤ x2 then some (.inr (0, M))
    else bd2 (F_X4_readLine M p1 x2) fun r_1 M_2 => if r_1 = 0 then some (.inr (0, M_2))
    else lett (sI M_2 3 4 (x2 + 1)) fun M_4 => bd1 (F_X4_sign M_4 p1) fun r_6 => if r_6 = (nI 61) then lett (sI M_4 3 3 ((gI M_4 3 3) + 1)) fun M_12 => some (.inr (1, M_12))
    else if r_6 = (nI 47) then if (gI M_4 3 4) = (nI 4) then some (.inr (0, M_4))
    else lett (sI M_4 3 3 ((gI M_4 3 3) + 1)) fun M_8 => lett (x2 + 1) fun x_10 => some (.inl (x_10, M_8))
    else some (.inr (0, M_4))
def F_X4_readLines (M : Mem) (p1 : Nat) : Option (Int32 × Mem) :=
 loop (X4_readLines_L2 p1) FU (0, M)
set_option maxRecDepth 100000 in
set_option maxHeartbeats 4000000 in
theorem s_X4_readLines_L2 (lw : Nat → Option Nat) (tl : Option Nat) (tt : Option Nat) (p1 : Nat) (h1 : isX5 p1 = true) (x2 : Int32) (M : Mem) {Po : Po_} (x : (Int32 × Mem) ⊕ (Int32 × Mem)) (h : X4_readLines_L2 p1 (x2, M) = some x) (hI : ∀ (ix2 : Int32) (iM : Mem), x = .inl (ix2, iM) → T RX4 cX4_readLines 4 (some .boolean) 0 6 0 0 false Po 2 [aR (some 3), aR (some p1), aI ix2, aU] [] LAYC (rfs lw tl tt) iM 0 0) (hE0 : ∀ (er : Int32) (eM : Mem), x = .inr (er, eM) → Po (vI er) LAYC (rfs lw tl tt) eM) : T RX4 cX4_readLines 4 (some .boolean) 0 6 0 0 false Po 2 [aR (some 3), aR (some p1), aI x2, aU] [] LAYC (rfs lw tl tt) M 0 0 := by
  unfold X4_readLines_L2 at h
  simp only at h
  refine T_iload_n dX4_readLines_2 rfl ?_
  refine T_iconst dX4_readLines_3 ic_4 ?_
  refine T_icmp_ge (tgt := 81) dX4_readLines_4 (by decide) (fun hc => ?_) (fun hc => ?_)
  · have h := it_pos hc h
    refine T_iconst dX4_readLines_81 ic_0 ?_
    obtain rfl := sm1 h
    exact T_zret dX4_readLines_82 (Or.inl rfl) (hE0 _ _ rfl)
  · have h := it_neg hc h
    refine T_aload_n dX4_readLines_7 rfl ?_
    refine T_aload_n dX4_readLines_8 rfl ?_
    refine T_iload_n dX4_readLines_9 rfl ?_
    obtain ⟨r_1, M_2, hc_3, h⟩ := bd2_some h
    refine T_cvi (as := [vR (some p1), vI x2]) dX4_readLines_10 cw_X4_readLine ml_X4_66 mi_X4_readLine se_X4_readLine lyC_3 rfl (by decide) rfl (Nat.le_of_ble_eq_true rfl) (Nat.le_of_ble_eq_true rfl) (m_X4_readLine lw tl tt M p1 x2 h1 _ _ hc_3) ?_
    refine T_if_ne (tgt := 18) dX4_readLines_13 (by decide) (fun hc => ?_) (fun hc => ?_)
    · have h := it_neg hc h
      refine T_aload_n dX4_readLines_18 rfl ?_
      refine T_iload_n dX4_readLines_19 rfl ?_
      refine T_iconst dX4_readLines_20 ic_1 ?_
      refine T_iadd dX4_readLines_21 ?_
      obtain ⟨M_4, eM_5, h⟩ := lett_some h
      refine T_putI dX4_readLines_22 clOK_X4 fl_X4_25 (Or.inl rfl) lyC_3 rfl rfl eM_5 ?_
      refine T_aload_n dX4_readLines_25 rfl ?_
      refine T_aload_n dX4_readLines_26 rfl ?_
      obtain ⟨r_6, hc_7, h⟩ := bd1_some h
      refine T_cvi (as := [vR (some p1)]) dX4_readLines_27 cw_X4_sign ml_X4_62 mi_X4_sign se_X4_sign lyC_3 rfl (by decide) rfl (Nat.le_of_ble_eq_true rfl) (Nat.le_of_ble_eq_true rfl) (m_X4_sign lw tl tt M_4 p1 h1 _ hc_7) ?_
      refine T_istore_n (i := 3) (L' := [aR (some 3), aR (some p1), aI x2, aI r_6]) dX4_readLines_30 rfl (Nat.le_of_ble_eq_true rfl) rfl ?_
      refine T_iload_n dX4_readLines_31 rfl ?_
      refine T_bipush dX4_readLines_32 bp_61 ?_
      refine T_icmp_ne (tgt := 49) dX4_readLines_34 (by decide) (fun hc => ?_) (fun hc => ?_)
      · have h := it_neg hc h
        refine T_iload_n dX4_readLines_49 rfl ?_
        refine T_bipush dX4_readLines_50 bp_47 ?_
        refine T_icmp_ne (tgt := 63) dX4_readLines_52 (by decide) (fun hc => ?_) (fun hc => ?_)
        · have h := it_neg hc h
          refine T_iconst dX4_readLines_63 ic_0 ?_
          obtain rfl := sm1 h
          exact T_zret dX4_readLines_64 (Or.inl rfl) (hE0 _ _ rfl)
        · have h := it_pos hc h
          refine T_aload_n dX4_readLines_55 rfl ?_
          refine T_getI dX4_readLines_56 clOK_X4 fl_X4_25 lyC_3 rfl ?_
          refine T_iconst dX4_readLines_59 ic_4 ?_
          refine T_icmp_ne (tgt := 65) dX4_readLines_60 (by decide) (fun hc => ?_) (fun hc => ?_)
          · have h := it_neg hc h
            refine T_aload_n dX4_readLines_65 rfl ?_
            refine T_dup dX4_readLines_66 rfl ?_
            refine T_getI dX4_readLines_67 clOK_X4 fl_X4_21 lyC_3 rfl ?_
            refine T_iconst dX4_readLines_70 ic_1 ?_
            refine T_iadd dX4_readLines_71 ?_
            obtain ⟨M_8, eM_9, h⟩ := lett_some h
            refine T_putI dX4_readLines_72 clOK_X4 fl_X4_21 (Or.inl rfl) lyC_3 rfl rfl eM_9 ?_
            obtain ⟨x_10, ex_11, h⟩ := lett_some h
            refine T_iinc (L' := [aR (some 3), aR (some p1), aI x_10, aI r_6]) dX4_readLines_75 rfl (ic_inc ic_1 ex_11) (Nat.le_of_ble_eq_true rfl) rfl ?_
            refine T_goto (tgt := 2) dX4_readLines_78 (by decide) ?_
            obtain rfl := sm1 h
            refine T_mask [true, true, true, false] rfl ?_
            exact hI _ _ rfl
          · have h := it_pos hc h
            refine T_iconst dX4_readLines_63 ic_0 ?_
            obtain rfl := sm1 h
            exact T_zret dX4_readLines_64 (Or.inl rfl) (hE0 _ _ rfl)
      · have h := it_pos hc h
        refine T_aload_n dX4_readLines_37 rfl ?_
        refine T_dup dX4_readLines_38 rfl ?_
        refine T_getI dX4_readLines_39 clOK_X4 fl_X4_21 lyC_3 rfl ?_
        refine T_iconst dX4_readLines_42 ic_1 ?_
        refine T_iadd dX4_readLines_43 ?_
        obtain ⟨M_12, eM_13, h⟩ := lett_some h
        refine T_putI dX4_readLines_44 clOK_X4 fl_X4_21 (Or.inl rfl) lyC_3 rfl rfl eM_13 ?_
        refine T_iconst dX4_readLines_47 ic_1 ?_
        obtain rfl := sm1 h
        exact T_zret dX4_readLines_48 (Or.inr rfl) (hE0 _ _ rfl)
    · have h := it_pos hc h
      refine T_iconst dX4_readLines_16 ic_0 ?_
      obtain rfl := sm1 h
      exact T_zret dX4_readLines_17 (Or.inl rfl) (hE0 _ _ rfl)
set_option maxRecDepth 100000 in
set_option maxHeartbeats 4000000 in
theorem l_X4_readLines_L2 (lw : Nat → Option Nat) (tl : Option Nat) (tt : Option Nat) (p1 : Nat) (h1 : isX5 p1 = true) {Po : Po_} (er : Int32) (eM : Mem) : ∀ (k : Nat) (x2 : Int32) (M : Mem), loop (X4_readLines_L2 p1) k (x2, M) = some (er, eM) → (Po (vI er) LAYC (rfs lw tl tt) eM) → T RX4 cX4_readLines 4 (some .boolean) 0 6 0 0 false Po 2 [aR (some 3), aR (some p1), aI x2, aU] [] LAYC (rfs lw tl tt) M 0 0 := by
  intro k
  induction k with
  | zero => intro x2 M h; cases h
  | succ k ih =>
    intro x2 M h hE
    obtain ⟨x, hx, hx1, hx2⟩ := loop_succ h
    exact s_X4_readLines_L2  lw tl tt p1 h1 x2 M x hx (fun q0 q1 e => ih q0 q1 (hx1 _ e) hE) (fun q0 q1 e => by cases hx2 _ e; exact hE)
set_option maxRecDepth 100000 in
set_option maxHeartbeats 4000000 in
theorem m_X4_readLines (lw : Nat → Option Nat) (tl : Option Nat) (tt : Option Nat) (M : Mem) (p1 : Nat) (h1 : isX5 p1 = true) (r : Int32) (M' : Mem) (h : F_X4_readLines M p1 = some (r, M')) : Cal yX4_readLines cX4_readLines 4 (some .boolean) 0 6 0 0 false [vR (some 3), vR (some p1)] LAYC (rfs lw tl tt) M (eqp (vI r) LAYC (rfs lw tl tt) M') := by
  refine Cal.of (by decide +kernel) (Nat.le_of_ble_eq_true rfl) (fun h => by cases h) ?_
  unfold F_X4_readLines at h
  show T RX4 cX4_readLines 4 (some .boolean) 0 6 0 0 false (eqp (vI r) LAYC (rfs lw tl tt) M') 0 [aR (some 3), aR (some p1), aU, aU] [] LAYC (rfs lw tl tt) M 0 0
  refine T_iconst dX4_readLines_0 ic_0 ?_
  refine T_istore_n (i := 2) (L' := [aR (some 3), aR (some p1), aI 0, aU]) dX4_readLines_1 rfl (Nat.le_of_ble_eq_true rfl) rfl ?_
  exact l_X4_readLines_L2  lw tl tt p1 h1 _ _ FU 0 M h ⟨rfl, rfl, rfl, rfl⟩
def F_X5_size (M : Mem) (p0 : Nat) : Option (Int32) :=
 some (gI M p0 1)
set_option maxRecDepth 100000 in
set_option maxHeartbeats 4000000 in
theorem m_X5_size (lw : Nat → Option Nat) (tl : Option Nat) (tt : Option Nat) (M : Mem) (p0 : Nat) (h0 : isX5 p0 = true) (r : Int32) (h : F_X5_size M p0 = some r) : Cal yX5_size cX5_size 1 (some .int) 0 1 0 0 false [vR (some p0)] LAYC (rfs lw tl tt) M (eqp (vI r) LAYC (rfs lw tl tt) M) := by
  refine Cal.of (by decide +kernel) (Nat.le_of_ble_eq_true rfl) (fun h => by cases h) ?_
  unfold F_X5_size at h
  show T RX5 cX5_size 1 (some .int) 0 1 0 0 false (eqp (vI r) LAYC (rfs lw tl tt) M) 0 [aR (some p0)] [] LAYC (rfs lw tl tt) M 0 0
  refine T_aload_n dX5_size_0 rfl ?_
  refine T_getI dX5_size_1 clOK_X5 fl_X5_9 (lyX5 h0) rfl ?_
  obtain rfl := sm1 h
  exact T_iret dX5_size_4 ⟨rfl, rfl, rfl, rfl⟩
def X4_skipBlanks_L0 (p1 : Nat) : Mem → Option ((Mem) ⊕ (Mem))
  | M =>
    bd1 (F_X5_size M p1) fun r_1 => if r_1 ≤ (gI M 3 3) then some (.inr M)
    else bd1 (F_X4_sign M p1) fun r_3 => if r_3 = (nI 32) then lett (sI M 3 3 ((gI M 3 3) + 1)) fun M_5 => some (.inl M_5)
    else some (.inr M)
def F_X4_skipBlanks (M : Mem) (p1 : Nat) : Option (Mem) :=
 loop (X4_skipBlanks_L0 p1) FU M
set_option maxRecDepth 100000 in
set_option maxHeartbeats 4000000 in
theorem s_X4_skipBlanks_L0 (lw : Nat → Option Nat) (tl : Option Nat) (tt : Option Nat) (p1 : Nat) (h1 : isX5 p1 = true) (M : Mem) {Po : Po_} (x : (Mem) ⊕ (Mem)) (h : X4_skipBlanks_L0 p1 M = some x) (hI : ∀ (iM : Mem), x = .inl iM → T RX4 cX4_skipBlanks 2 none 2 4 0 0 false Po 0 [aR (some 3), aR (some p1)] [] LAYC (rfs lw tl tt) iM 0 0) (hE0 : ∀ (eM : Mem), x = .inr eM → Po (vI 0) LAYC (rfs lw tl tt) eM) : T RX4 cX4_skipBlanks 2 none 2 4 0 0 false Po 0 [aR (some 3), aR (some p1)] [] LAYC (rfs lw tl tt) M 0 0 := by
  unfold X4_skipBlanks_L0 at h
  simp only at h
  refine T_aload_n dX4_skipBlanks_0 rfl ?_
  refine T_getI dX4_skipBlanks_1 clOK_X4 fl_X4_21 lyC_3 rfl ?_
  refine T_aload_n dX4_skipBlanks_4 rfl ?_
  obtain ⟨r_1, hc_2, h⟩ := bd1_some h
  refine T_cvi (as := []) dX4_skipBlanks_5 cw_X5_size ml_X4_48 mi_X5_size se_X5_size (lyX5 h1) rfl (by decide) rfl (Nat.le_of_ble_eq_true rfl) (Nat.le_of_ble_eq_true rfl) (m_X5_size lw tl tt M p1 h1 _ hc_2) ?_
  refine T_icmp_ge (tgt := 34) dX4_skipBlanks_8 (by decide) (fun hc => ?_) (fun hc => ?_)
  · have h := it_pos hc h
    obtain rfl := sm1 h
    exact T_vret dX4_skipBlanks_34 (hE0 _ rfl)
  · have h := it_neg hc h
    refine T_aload_n dX4_skipBlanks_11 rfl ?_
    refine T_aload_n dX4_skipBlanks_12 rfl ?_
    obtain ⟨r_3, hc_4, h⟩ := bd1_some h
    refine T_cvi (as := [vR (some p1)]) dX4_skipBlanks_13 cw_X4_sign ml_X4_62 mi_X4_sign se_X4_sign lyC_3 rfl (by decide) rfl (Nat.le_of_ble_eq_true rfl) (Nat.le_of_ble_eq_true rfl) (m_X4_sign lw tl tt M p1 h1 _ hc_4) ?_
    refine T_bipush dX4_skipBlanks_16 bp_32 ?_
    refine T_icmp_ne (tgt := 34) dX4_skipBlanks_18 (by decide) (fun hc => ?_) (fun hc => ?_)
    · have h := it_neg hc h
      obtain rfl := sm1 h
      exact T_vret dX4_skipBlanks_34 (hE0 _ rfl)
    · have h := it_pos hc h
      refine T_aload_n dX4_skipBlanks_21 rfl ?_
      refine T_dup dX4_skipBlanks_22 rfl ?_
      refine T_getI dX4_skipBlanks_23 clOK_X4 fl_X4_21 lyC_3 rfl ?_
      refine T_iconst dX4_skipBlanks_26 ic_1 ?_
      refine T_iadd dX4_skipBlanks_27 ?_
      obtain ⟨M_5, eM_6, h⟩ := lett_some h
      refine T_putI dX4_skipBlanks_28 clOK_X4 fl_X4_21 (Or.inl rfl) lyC_3 rfl rfl eM_6 ?_
      refine T_goto (tgt := 0) dX4_skipBlanks_31 (by decide) ?_
      obtain rfl := sm1 h
      exact hI _ rfl
set_option maxRecDepth 100000 in
set_option maxHeartbeats 4000000 in
theorem l_X4_skipBlanks_L0 (lw : Nat → Option Nat) (tl : Option Nat) (tt : Option Nat) (p1 : Nat) (h1 : isX5 p1 = true) {Po : Po_} (eM : Mem) : ∀ (k : Nat) (M : Mem), loop (X4_skipBlanks_L0 p1) k M = some eM → (Po (vI 0) LAYC (rfs lw tl tt) eM) → T RX4 cX4_skipBlanks 2 none 2 4 0 0 false Po 0 [aR (some 3), aR (some p1)] [] LAYC (rfs lw tl tt) M 0 0 := by
  intro k
  induction k with
  | zero => intro M h; cases h
  | succ k ih =>
    intro M h hE
    obtain ⟨x, hx, hx1, hx2⟩ := loop_succ h
    exact s_X4_skipBlanks_L0  lw tl tt p1 h1 M x hx (fun q0 e => ih q0 (hx1 _ e) hE) (fun q0 e => by cases hx2 _ e; exact hE)
set_option maxRecDepth 100000 in
set_option maxHeartbeats 4000000 in
theorem m_X4_skipBlanks (lw : Nat → Option Nat) (tl : Option Nat) (tt : Option Nat) (M : Mem) (p1 : Nat) (h1 : isX5 p1 = true) (M' : Mem) (h : F_X4_skipBlanks M p1 = some M') : Cal yX4_skipBlanks cX4_skipBlanks 2 none 2 4 0 0 false [vR (some 3), vR (some p1)] LAYC (rfs lw tl tt) M (eqp (vI 0) LAYC (rfs lw tl tt) M') := by
  refine Cal.of (by decide +kernel) (Nat.le_of_ble_eq_true rfl) (fun h => by cases h) ?_
  unfold F_X4_skipBlanks at h
  show T RX4 cX4_skipBlanks 2 none 2 4 0 0 false (eqp (vI 0) LAYC (rfs lw tl tt) M') 0 [aR (some 3), aR (some p1)] [] LAYC (rfs lw tl tt) M 0 0
  exact l_X4_skipBlanks_L0  lw tl tt p1 h1 _ FU M h ⟨rfl, rfl, rfl, rfl⟩
def F_X4_faultOf (M : Mem) (p1 : Nat) : Option (Int32 × Mem) :=
 lett (sI M 3 3 0) fun M_1 => lett (sI M_1 3 4 0) fun M_3 => lett (sI M_3 3 5 0) fun M_5 => lett (sI M_5 3 6 0) fun M_7 => bd1 (F_X4_skipBlanks M_7 p1) fun M_9 => bd2 (F_X4_readLines M_9 p1) fun r_11 M_12 => if r_11 = 0 then some (gI M_12 3 3, M_12)
 else bd2 (F_X4_readGardens M_12 p1) fun r_14 M_15 => if r_14 = 0 then some (gI M_15 3 3, M_15)
 else bd1 (F_X4_readLaws M_15 p1) fun M_17 => bd1 (F_X4_skipBlanks M_17 p1) fun M_19 => bd1 (F_X5_size M_19 p1) fun r_21 => if r_21 ≤ (gI M_19 3 3) then some ((-9), M_19)
 else some (gI M_19 3 3, M_19)
set_option maxRecDepth 100000 in
set_option maxHeartbeats 4000000 in
theorem m_X4_faultOf (lw : Nat → Option Nat) (tl : Option Nat) (tt : Option Nat) (M : Mem) (p1 : Nat) (h1 : isX5 p1 = true) (r : Int32) (M' : Mem) (h : F_X4_faultOf M p1 = some (r, M')) : Cal yX4_faultOf cX4_faultOf 2 (some .int) 0 7 0 0 false [vR (some 3), vR (some p1)] LAYC (rfs lw tl tt) M (eqp (vI r) LAYC (rfs lw tl tt) M') := by
  refine Cal.of (by decide +kernel) (Nat.le_of_ble_eq_true rfl) (fun h => by cases h) ?_
  unfold F_X4_faultOf at h
  show T RX4 cX4_faultOf 2 (some .int) 0 7 0 0 false (eqp (vI r) LAYC (rfs lw tl tt) M') 0 [aR (some 3), aR (some p1)] [] LAYC (rfs lw tl tt) M 0 0
  refine T_aload_n dX4_faultOf_0 rfl ?_
  refine T_iconst dX4_faultOf_1 ic_0 ?_
  obtain ⟨M_1, eM_2, h⟩ := lett_some h
  refine T_putI dX4_faultOf_2 clOK_X4 fl_X4_21 (Or.inl rfl) lyC_3 rfl rfl eM_2 ?_
  refine T_aload_n dX4_faultOf_5 rfl ?_
  refine T_iconst dX4_faultOf_6 ic_0 ?_
  obtain ⟨M_3, eM_4, h⟩ := lett_some h
  refine T_putI dX4_faultOf_7 clOK_X4 fl_X4_25 (Or.inl rfl) lyC_3 rfl rfl eM_4 ?_
  refine T_aload_n dX4_faultOf_10 rfl ?_
  refine T_iconst dX4_faultOf_11 ic_0 ?_
  obtain ⟨M_5, eM_6, h⟩ := lett_some h
  refine T_putI dX4_faultOf_12 clOK_X4 fl_X4_28 (Or.inl rfl) lyC_3 rfl rfl eM_6 ?_
  refine T_aload_n dX4_faultOf_15 rfl ?_
  refine T_iconst dX4_faultOf_16 ic_0 ?_
  obtain ⟨M_7, eM_8, h⟩ := lett_some h
  refine T_putI dX4_faultOf_17 clOK_X4 fl_X4_31 (Or.inl rfl) lyC_3 rfl rfl eM_8 ?_
  refine T_aload_n dX4_faultOf_20 rfl ?_
  refine T_aload_n dX4_faultOf_21 rfl ?_
  obtain ⟨M_9, hc_10, h⟩ := bd1_some h
  refine T_cvv (as := [vR (some p1)]) dX4_faultOf_22 cw_X4_skipBlanks ml_X4_34 mi_X4_skipBlanks se_X4_skipBlanks lyC_3 rfl (by decide) rfl (Nat.le_of_ble_eq_true rfl) (Nat.le_of_ble_eq_true rfl) (m_X4_skipBlanks lw tl tt M_7 p1 h1 _ hc_10) ?_
  refine T_aload_n dX4_faultOf_25 rfl ?_
  refine T_aload_n dX4_faultOf_26 rfl ?_
  obtain ⟨r_11, M_12, hc_13, h⟩ := bd2_some h
  refine T_cvi (as := [vR (some p1)]) dX4_faultOf_27 cw_X4_readLines ml_X4_38 mi_X4_readLines se_X4_readLines lyC_3 rfl (by decide) rfl (Nat.le_of_ble_eq_true rfl) (Nat.le_of_ble_eq_true rfl) (m_X4_readLines lw tl tt M_9 p1 h1 _ _ hc_13) ?_
  refine T_if_eq (tgt := 41) dX4_faultOf_30 (by decide) (fun hc => ?_) (fun hc => ?_)
  · have h := it_pos hc h
    refine T_aload_n dX4_faultOf_41 rfl ?_
    refine T_getI dX4_faultOf_42 clOK_X4 fl_X4_21 lyC_3 rfl ?_
    obtain ⟨rfl, rfl⟩ := sm2 h
    exact T_iret dX4_faultOf_45 ⟨rfl, rfl, rfl, rfl⟩
  · have h := it_neg hc h
    refine T_aload_n dX4_faultOf_33 rfl ?_
    refine T_aload_n dX4_faultOf_34 rfl ?_
    obtain ⟨r_14, M_15, hc_16, h⟩ := bd2_some h
    refine T_cvi (as := [vR (some p1)]) dX4_faultOf_35 cw_X4_readGardens ml_X4_42 mi_X4_readGardens se_X4_readGardens lyC_3 rfl (by decide) rfl (Nat.le_of_ble_eq_true rfl) (Nat.le_of_ble_eq_true rfl) (m_X4_readGardens lw tl tt M_12 p1 h1 _ _ hc_16) ?_
    refine T_if_ne (tgt := 46) dX4_faultOf_38 (by decide) (fun hc => ?_) (fun hc => ?_)
    · have h := it_neg hc h
      refine T_aload_n dX4_faultOf_46 rfl ?_
      refine T_aload_n dX4_faultOf_47 rfl ?_
      obtain ⟨M_17, hc_18, h⟩ := bd1_some h
      refine T_cvv (as := [vR (some p1)]) dX4_faultOf_48 cw_X4_readLaws ml_X4_45 mi_X4_readLaws se_X4_readLaws lyC_3 rfl (by decide) rfl (Nat.le_of_ble_eq_true rfl) (Nat.le_of_ble_eq_true rfl) (m_X4_readLaws lw tl tt M_15 p1 h1 _ hc_18) ?_
      refine T_aload_n dX4_faultOf_51 rfl ?_
      refine T_aload_n dX4_faultOf_52 rfl ?_
      obtain ⟨M_19, hc_20, h⟩ := bd1_some h
      refine T_cvv (as := [vR (some p1)]) dX4_faultOf_53 cw_X4_skipBlanks ml_X4_34 mi_X4_skipBlanks se_X4_skipBlanks lyC_3 rfl (by decide) rfl (Nat.le_of_ble_eq_true rfl) (Nat.le_of_ble_eq_true rfl) (m_X4_skipBlanks lw tl tt M_17 p1 h1 _ hc_20) ?_
      refine T_aload_n dX4_faultOf_56 rfl ?_
      refine T_getI dX4_faultOf_57 clOK_X4 fl_X4_21 lyC_3 rfl ?_
      refine T_aload_n dX4_faultOf_60 rfl ?_
      obtain ⟨r_21, hc_22, h⟩ := bd1_some h
      refine T_cvi (as := []) dX4_faultOf_61 cw_X5_size ml_X4_48 mi_X5_size se_X5_size (lyX5 h1) rfl (by decide) rfl (Nat.le_of_ble_eq_true rfl) (Nat.le_of_ble_eq_true rfl) (m_X5_size lw tl tt M_19 p1 h1 _ hc_22) ?_
      refine T_icmp_ge (tgt := 74) dX4_faultOf_64 (by decide) (fun hc => ?_) (fun hc => ?_)
      · have h := it_pos hc h
        refine T_bipush dX4_faultOf_74 bp_m9 ?_
        obtain ⟨rfl, rfl⟩ := sm2 h
        exact T_iret dX4_faultOf_76 ⟨rfl, rfl, rfl, rfl⟩
      · have h := it_neg hc h
        refine T_aload_n dX4_faultOf_67 rfl ?_
        refine T_getI dX4_faultOf_68 clOK_X4 fl_X4_21 lyC_3 rfl ?_
        refine T_goto (tgt := 76) dX4_faultOf_71 (by decide) ?_
        obtain ⟨rfl, rfl⟩ := sm2 h
        exact T_iret dX4_faultOf_76 ⟨rfl, rfl, rfl, rfl⟩
    · have h := it_pos hc h
      refine T_aload_n dX4_faultOf_41 rfl ?_
      refine T_getI dX4_faultOf_42 clOK_X4 fl_X4_21 lyC_3 rfl ?_
      obtain ⟨rfl, rfl⟩ := sm2 h
      exact T_iret dX4_faultOf_45 ⟨rfl, rfl, rfl, rfl⟩
def F_X4_kindAt (M : Mem) (x1 : Int32) : Option (Int32) :=
 if x1 < 0 then some 0
 else if (nI 6) ≤ x1 then some 0
 else chk (inb x1 6 = true) (some (gI M 6 x1.toNatClampNeg))
set_option maxRecDepth 100000 in
set_option maxHeartbeats 4000000 in
theorem m_X4_kindAt (lw : Nat → Option Nat) (tl : Option Nat) (tt : Option Nat) (M : Mem) (x1 : Int32) (r : Int32) (h : F_X4_kindAt M x1 = some r) : Cal yX4_kindAt cX4_kindAt 2 (some .int) 0 1 0 0 false [vR (some 3), vI x1] LAYC (rfs lw tl tt) M (eqp (vI r) LAYC (rfs lw tl tt) M) := by
  refine Cal.of (by decide +kernel) (Nat.le_of_ble_eq_true rfl) (fun h => by cases h) ?_
  unfold F_X4_kindAt at h
  show T RX4 cX4_kindAt 2 (some .int) 0 1 0 0 false (eqp (vI r) LAYC (rfs lw tl tt) M) 0 [aR (some 3), aI x1] [] LAYC (rfs lw tl tt) M 0 0
  refine T_iload_n dX4_kindAt_0 rfl ?_
  refine T_if_lt (tgt := 22) dX4_kindAt_1 (by decide) (fun hc => ?_) (fun hc => ?_)
  · have h := it_pos hc h
    refine T_iconst dX4_kindAt_22 ic_0 ?_
    obtain rfl := sm1 h
    exact T_iret dX4_kindAt_23 ⟨rfl, rfl, rfl, rfl⟩
  · have h := it_neg hc h
    refine T_iload_n dX4_kindAt_4 rfl ?_
    refine T_aload_n dX4_kindAt_5 rfl ?_
    refine T_getR dX4_kindAt_6 clOK_X4 fl_X4_18 lyC_3 rfl rfl ?_
    refine T_alen dX4_kindAt_9 lyC_6 (Or.inl rfl) rfl ?_
    refine T_icmp_ge (tgt := 22) dX4_kindAt_10 (by decide) (fun hc => ?_) (fun hc => ?_)
    · have h := it_pos hc h
      refine T_iconst dX4_kindAt_22 ic_0 ?_
      obtain rfl := sm1 h
      exact T_iret dX4_kindAt_23 ⟨rfl, rfl, rfl, rfl⟩
    · have h := it_neg hc h
      refine T_aload_n dX4_kindAt_13 rfl ?_
      refine T_getR dX4_kindAt_14 clOK_X4 fl_X4_18 lyC_3 rfl rfl ?_
      refine T_iload_n dX4_kindAt_17 rfl ?_
      obtain ⟨hi_1, h⟩ := chk_some h
      refine T_iald dX4_kindAt_18 lyC_6 (inb_in hi_1) ?_
      refine T_goto (tgt := 23) dX4_kindAt_19 (by decide) ?_
      obtain rfl := sm1 h
      exact T_iret dX4_kindAt_23 ⟨rfl, rfl, rfl, rfl⟩
def F_X5_most (p0 : Nat) : Option (Int32) :=
 some (nI (slen p0))
set_option maxRecDepth 100000 in
set_option maxHeartbeats 4000000 in
theorem m_X5_most (lw : Nat → Option Nat) (tl : Option Nat) (tt : Option Nat) (M : Mem) (p0 : Nat) (h0 : isX5 p0 = true) (r : Int32) (h : F_X5_most p0 = some r) : Cal yX5_most cX5_most 1 (some .int) 0 1 0 0 false [vR (some p0)] LAYC (rfs lw tl tt) M (eqp (vI r) LAYC (rfs lw tl tt) M) := by
  refine Cal.of (by decide +kernel) (Nat.le_of_ble_eq_true rfl) (fun h => by cases h) ?_
  unfold F_X5_most at h
  show T RX5 cX5_most 1 (some .int) 0 1 0 0 false (eqp (vI r) LAYC (rfs lw tl tt) M) 0 [aR (some p0)] [] LAYC (rfs lw tl tt) M 0 0
  refine T_aload_n dX5_most_0 rfl ?_
  refine T_getR dX5_most_1 clOK_X5 fl_X5_21 (lyX5 h0) rfl (rfX5_0 h0) ?_
  refine T_alen dX5_most_4 (lyX5a h0) (Or.inl rfl) rfl ?_
  obtain rfl := sm1 h
  exact T_iret dX5_most_5 ⟨rfl, rfl, rfl, rfl⟩
def F_X5_isMissing (M : Mem) (p0 : Nat) : Option (Int32) :=
 if 0 ≤ (gI M p0 1) then some 0
 else some 1
set_option maxRecDepth 100000 in
set_option maxHeartbeats 4000000 in
theorem m_X5_isMissing (lw : Nat → Option Nat) (tl : Option Nat) (tt : Option Nat) (M : Mem) (p0 : Nat) (h0 : isX5 p0 = true) (r : Int32) (h : F_X5_isMissing M p0 = some r) : Cal yX5_isMissing cX5_isMissing 1 (some .boolean) 0 1 0 0 false [vR (some p0)] LAYC (rfs lw tl tt) M (eqp (vI r) LAYC (rfs lw tl tt) M) := by
  refine Cal.of (by decide +kernel) (Nat.le_of_ble_eq_true rfl) (fun h => by cases h) ?_
  unfold F_X5_isMissing at h
  show T RX5 cX5_isMissing 1 (some .boolean) 0 1 0 0 false (eqp (vI r) LAYC (rfs lw tl tt) M) 0 [aR (some p0)] [] LAYC (rfs lw tl tt) M 0 0
  refine T_aload_n dX5_isMissing_0 rfl ?_
  refine T_getI dX5_isMissing_1 clOK_X5 fl_X5_9 (lyX5 h0) rfl ?_
  refine T_if_ge (tgt := 11) dX5_isMissing_4 (by decide) (fun hc => ?_) (fun hc => ?_)
  · have h := it_pos hc h
    refine T_iconst dX5_isMissing_11 ic_0 ?_
    obtain rfl := sm1 h
    exact T_zret dX5_isMissing_12 (Or.inl rfl) ⟨rfl, rfl, rfl, rfl⟩
  · have h := it_neg hc h
    refine T_iconst dX5_isMissing_7 ic_1 ?_
    refine T_goto (tgt := 12) dX5_isMissing_8 (by decide) ?_
    obtain rfl := sm1 h
    exact T_zret dX5_isMissing_12 (Or.inr rfl) ⟨rfl, rfl, rfl, rfl⟩
def F_X5_spans (M : Mem) (p0 : Nat) (x1 : Int32) (x2 : Int32) : Option (Int32) :=
 if x1 < 0 then some 0
 else if x2 < 0 then some 0
 else if ((gI M p0 1) - x2) < x1 then some 0
 else some 1
set_option maxRecDepth 100000 in
set_option maxHeartbeats 4000000 in
theorem m_X5_spans (lw : Nat → Option Nat) (tl : Option Nat) (tt : Option Nat) (M : Mem) (p0 : Nat) (x1 : Int32) (x2 : Int32) (h0 : isX5 p0 = true) (r : Int32) (h : F_X5_spans M p0 x1 x2 = some r) : Cal yX5_spans cX5_spans 3 (some .boolean) 0 1 0 0 false [vR (some p0), vI x1, vI x2] LAYC (rfs lw tl tt) M (eqp (vI r) LAYC (rfs lw tl tt) M) := by
  refine Cal.of (by decide +kernel) (Nat.le_of_ble_eq_true rfl) (fun h => by cases h) ?_
  unfold F_X5_spans at h
  show T RX5 cX5_spans 3 (some .boolean) 0 1 0 0 false (eqp (vI r) LAYC (rfs lw tl tt) M) 0 [aR (some p0), aI x1, aI x2] [] LAYC (rfs lw tl tt) M 0 0
  refine T_iload_n dX5_spans_0 rfl ?_
  refine T_if_lt (tgt := 22) dX5_spans_1 (by decide) (fun hc => ?_) (fun hc => ?_)
  · have h := it_pos hc h
    refine T_iconst dX5_spans_22 ic_0 ?_
    obtain rfl := sm1 h
    exact T_zret dX5_spans_23 (Or.inl rfl) ⟨rfl, rfl, rfl, rfl⟩
  · have h := it_neg hc h
    refine T_iload_n dX5_spans_4 rfl ?_
    refine T_if_lt (tgt := 22) dX5_spans_5 (by decide) (fun hc => ?_) (fun hc => ?_)
    · have h := it_pos hc h
      refine T_iconst dX5_spans_22 ic_0 ?_
      obtain rfl := sm1 h
      exact T_zret dX5_spans_23 (Or.inl rfl) ⟨rfl, rfl, rfl, rfl⟩
    · have h := it_neg hc h
      refine T_iload_n dX5_spans_8 rfl ?_
      refine T_aload_n dX5_spans_9 rfl ?_
      refine T_getI dX5_spans_10 clOK_X5 fl_X5_9 (lyX5 h0) rfl ?_
      refine T_iload_n dX5_spans_13 rfl ?_
      refine T_isub dX5_spans_14 ?_
      refine T_icmp_gt (tgt := 22) dX5_spans_15 (by decide) (fun hc => ?_) (fun hc => ?_)
      · have h := it_pos hc h
        refine T_iconst dX5_spans_22 ic_0 ?_
        obtain rfl := sm1 h
        exact T_zret dX5_spans_23 (Or.inl rfl) ⟨rfl, rfl, rfl, rfl⟩
      · have h := it_neg hc h
        refine T_iconst dX5_spans_18 ic_1 ?_
        refine T_goto (tgt := 23) dX5_spans_19 (by decide) ?_
        obtain rfl := sm1 h
        exact T_zret dX5_spans_23 (Or.inr rfl) ⟨rfl, rfl, rfl, rfl⟩
def F_X5_set (M : Mem) (p0 : Nat) (x1 : Int32) (x2 : Int32) : Option (Mem) :=
 bd1 (F_X5_has M p0 x1) fun r_1 => if r_1 = 0 then some M
 else chk (inb x1 (slen p0) = true) (lett (sI M (p0 + 1) x1.toNatClampNeg x2) fun M_3 => some M_3)
set_option maxRecDepth 100000 in
set_option maxHeartbeats 4000000 in
theorem m_X5_set (lw : Nat → Option Nat) (tl : Option Nat) (tt : Option Nat) (M : Mem) (p0 : Nat) (x1 : Int32) (x2 : Int32) (h0 : isX5 p0 = true) (M' : Mem) (h : F_X5_set M p0 x1 x2 = some M') : Cal yX5_set cX5_set 3 none 2 2 0 0 false [vR (some p0), vI x1, vI x2] LAYC (rfs lw tl tt) M (eqp (vI 0) LAYC (rfs lw tl tt) M') := by
  refine Cal.of (by decide +kernel) (Nat.le_of_ble_eq_true rfl) (fun h => by cases h) ?_
  unfold F_X5_set at h
  show T RX5 cX5_set 3 none 2 2 0 0 false (eqp (vI 0) LAYC (rfs lw tl tt) M') 0 [aR (some p0), aI x1, aI x2] [] LAYC (rfs lw tl tt) M 0 0
  refine T_aload_n dX5_set_0 rfl ?_
  refine T_iload_n dX5_set_1 rfl ?_
  obtain ⟨r_1, hc_2, h⟩ := bd1_some h
  refine T_cvi (as := [vI x1]) dX5_set_2 cw_X5_has ml_X5_25 mi_X5_has se_X5_has (lyX5 h0) rfl (by decide) rfl (Nat.le_of_ble_eq_true rfl) (Nat.le_of_ble_eq_true rfl) (m_X5_has lw tl tt M p0 x1 h0 _ hc_2) ?_
  refine T_if_eq (tgt := 15) dX5_set_5 (by decide) (fun hc => ?_) (fun hc => ?_)
  · have h := it_pos hc h
    obtain rfl := sm1 h
    exact T_vret dX5_set_15 ⟨rfl, rfl, rfl, rfl⟩
  · have h := it_neg hc h
    refine T_aload_n dX5_set_8 rfl ?_
    refine T_getR dX5_set_9 clOK_X5 fl_X5_21 (lyX5 h0) rfl (rfX5_0 h0) ?_
    refine T_iload_n dX5_set_12 rfl ?_
    refine T_iload_n dX5_set_13 rfl ?_
    obtain ⟨hi_5, h⟩ := chk_some h
    obtain ⟨M_3, eM_4, h⟩ := lett_some h
    refine T_iast dX5_set_14 (lyX5a h0) (inb_in hi_5) eM_4 ?_
    obtain rfl := sm1 h
    exact T_vret dX5_set_15 ⟨rfl, rfl, rfl, rfl⟩
def X5_renew_L19 (p0 : Nat) (x2 : Int32) : Int32 × Mem → Option ((Int32 × Mem) ⊕ (Mem))
  | (x3, M) =>
    if (gI M p0 1) ≤ x3 then some (.inr M)
    else if (nI (slen p0)) ≤ x3 then some (.inr M)
    else chk (inb x3 (slen p0) = true) (lett (sI M (p0 + 1) x3.toNatClampNeg x2) fun M_7 => lett (x3 + 1) fun x_10 => some (.inl (x_10, M_7)))
def F_X5_renew (M : Mem) (p0 : Nat) (x1 : Int32) (x2 : Int32) : Option (Mem) :=
 bd1 (F_J9_min_7cf53 x1 (nI (slen p0))) fun r_1 => bd1 (F_J9_max_7cf53 0 r_1) fun r_3 => lett (sI M p0 1 r_3) fun M_5 => loop (X5_renew_L19 p0 x2) FU (0, M_5)
set_option maxRecDepth 100000 in
set_option maxHeartbeats 4000000 in
theorem s_X5_renew_L19 (lw : Nat → Option Nat) (tl : Option Nat) (tt : Option Nat) (p0 : Nat) (x2 : Int32) (h0 : isX5 p0 = true) (x3 : Int32) (M : Mem) {Po : Po_} (x : (Int32 × Mem) ⊕ (Mem)) (h : X5_renew_L19 p0 x2 (x3, M) = some x) (hI : ∀ (ix3 : Int32) (iM : Mem), x = .inl (ix3, iM) → T RX5 cX5_renew 4 none 2 2 0 0 false Po 19 [aR (some p0), aU, aI x2, aI ix3] [] LAYC (rfs lw tl tt) iM 0 0) (hE0 : ∀ (eM : Mem), x = .inr eM → Po (vI 0) LAYC (rfs lw tl tt) eM) : T RX5 cX5_renew 4 none 2 2 0 0 false Po 19 [aR (some p0), aU, aI x2, aI x3] [] LAYC (rfs lw tl tt) M 0 0 := by
  unfold X5_renew_L19 at h
  simp only at h
  refine T_iload_n dX5_renew_19 rfl ?_
  refine T_aload_n dX5_renew_20 rfl ?_
  refine T_getI dX5_renew_21 clOK_X5 fl_X5_9 (lyX5 h0) rfl ?_
  refine T_icmp_ge (tgt := 49) dX5_renew_24 (by decide) (fun hc => ?_) (fun hc => ?_)
  · have h := it_pos hc h
    obtain rfl := sm1 h
    exact T_vret dX5_renew_49 (hE0 _ rfl)
  · have h := it_neg hc h
    refine T_iload_n dX5_renew_27 rfl ?_
    refine T_aload_n dX5_renew_28 rfl ?_
    refine T_getR dX5_renew_29 clOK_X5 fl_X5_21 (lyX5 h0) rfl (rfX5_0 h0) ?_
    refine T_alen dX5_renew_32 (lyX5a h0) (Or.inl rfl) rfl ?_
    refine T_icmp_ge (tgt := 49) dX5_renew_33 (by decide) (fun hc => ?_) (fun hc => ?_)
    · have h := it_pos hc h
      obtain rfl := sm1 h
      exact T_vret dX5_renew_49 (hE0 _ rfl)
    · have h := it_neg hc h
      refine T_aload_n dX5_renew_36 rfl ?_
      refine T_getR dX5_renew_37 clOK_X5 fl_X5_21 (lyX5 h0) rfl (rfX5_0 h0) ?_
      refine T_iload_n dX5_renew_40 rfl ?_
      refine T_iload_n dX5_renew_41 rfl ?_
      obtain ⟨hi_9, h⟩ := chk_some h
      obtain ⟨M_7, eM_8, h⟩ := lett_some h
      refine T_iast dX5_renew_42 (lyX5a h0) (inb_in hi_9) eM_8 ?_
      obtain ⟨x_10, ex_11, h⟩ := lett_some h
      refine T_iinc (L' := [aR (some p0), aU, aI x2, aI x_10]) dX5_renew_43 rfl (ic_inc ic_1 ex_11) (Nat.le_of_ble_eq_true rfl) rfl ?_
      refine T_goto (tgt := 19) dX5_renew_46 (by decide) ?_
      obtain rfl := sm1 h
      exact hI _ _ rfl
set_option maxRecDepth 100000 in
set_option maxHeartbeats 4000000 in
theorem l_X5_renew_L19 (lw : Nat → Option Nat) (tl : Option Nat) (tt : Option Nat) (p0 : Nat) (x2 : Int32) (h0 : isX5 p0 = true) {Po : Po_} (eM : Mem) : ∀ (k : Nat) (x3 : Int32) (M : Mem), loop (X5_renew_L19 p0 x2) k (x3, M) = some eM → (Po (vI 0) LAYC (rfs lw tl tt) eM) → T RX5 cX5_renew 4 none 2 2 0 0 false Po 19 [aR (some p0), aU, aI x2, aI x3] [] LAYC (rfs lw tl tt) M 0 0 := by
  intro k
  induction k with
  | zero => intro x3 M h; cases h
  | succ k ih =>
    intro x3 M h hE
    obtain ⟨x, hx, hx1, hx2⟩ := loop_succ h
    exact s_X5_renew_L19  lw tl tt p0 x2 h0 x3 M x hx (fun q0 q1 e => ih q0 q1 (hx1 _ e) hE) (fun q0 e => by cases hx2 _ e; exact hE)
set_option maxRecDepth 100000 in
set_option maxHeartbeats 4000000 in
theorem m_X5_renew (lw : Nat → Option Nat) (tl : Option Nat) (tt : Option Nat) (M : Mem) (p0 : Nat) (x1 : Int32) (x2 : Int32) (h0 : isX5 p0 = true) (M' : Mem) (h : F_X5_renew M p0 x1 x2 = some M') : Cal yX5_renew cX5_renew 4 none 2 2 0 0 false [vR (some p0), vI x1, vI x2] LAYC (rfs lw tl tt) M (eqp (vI 0) LAYC (rfs lw tl tt) M') := by
  refine Cal.of (by decide +kernel) (Nat.le_of_ble_eq_true rfl) (fun h => by cases h) ?_
  unfold F_X5_renew at h
  show T RX5 cX5_renew 4 none 2 2 0 0 false (eqp (vI 0) LAYC (rfs lw tl tt) M') 0 [aR (some p0), aI x1, aI x2, aU] [] LAYC (rfs lw tl tt) M 0 0
  refine T_aload_n dX5_renew_0 rfl ?_
  refine T_iconst dX5_renew_1 ic_0 ?_
  refine T_iload_n dX5_renew_2 rfl ?_
  refine T_aload_n dX5_renew_3 rfl ?_
  refine T_getR dX5_renew_4 clOK_X5 fl_X5_21 (lyX5 h0) rfl (rfX5_0 h0) ?_
  refine T_alen dX5_renew_7 (lyX5a h0) (Or.inl rfl) rfl ?_
  obtain ⟨r_1, hc_2, h⟩ := bd1_some h
  refine T_csi (as := [vI x1, vI (nI (slen p0))]) dX5_renew_8 cw_J9_min_7cf53 ml_X5_29 mt_J9_min_7cf53 rfl (Nat.le_of_ble_eq_true rfl) (Nat.le_of_ble_eq_true rfl) (m_J9_min_7cf53 LAYC (rfs lw tl tt) M x1 (nI (slen p0))  _ hc_2) ?_
  obtain ⟨r_3, hc_4, h⟩ := bd1_some h
  refine T_csi (as := [vI 0, vI r_1]) dX5_renew_11 cw_J9_max_7cf53 ml_X5_15 mt_J9_max_7cf53 rfl (Nat.le_of_ble_eq_true rfl) (Nat.le_of_ble_eq_true rfl) (m_J9_max_7cf53 LAYC (rfs lw tl tt) M 0 r_1  _ hc_4) ?_
  obtain ⟨M_5, eM_6, h⟩ := lett_some h
  refine T_putI dX5_renew_14 clOK_X5 fl_X5_9 (Or.inl rfl) (lyX5 h0) rfl rfl eM_6 ?_
  refine T_iconst dX5_renew_17 ic_0 ?_
  refine T_istore_n (i := 3) (L' := [aR (some p0), aI x1, aI x2, aI 0]) dX5_renew_18 rfl (Nat.le_of_ble_eq_true rfl) rfl ?_
  refine T_mask [true, false, true, true] rfl ?_
  exact l_X5_renew_L19  lw tl tt p0 x2 h0 _ FU 0 M_5 h ⟨rfl, rfl, rfl, rfl⟩
def F_X5_remove (M : Mem) (p0 : Nat) : Option (Mem) :=
 lett (sI M p0 1 (-1)) fun M_1 => some M_1
set_option maxRecDepth 100000 in
set_option maxHeartbeats 4000000 in
theorem m_X5_remove (lw : Nat → Option Nat) (tl : Option Nat) (tt : Option Nat) (M : Mem) (p0 : Nat) (h0 : isX5 p0 = true) (M' : Mem) (h : F_X5_remove M p0 = some M') : Cal yX5_remove cX5_remove 1 none 2 1 0 0 false [vR (some p0)] LAYC (rfs lw tl tt) M (eqp (vI 0) LAYC (rfs lw tl tt) M') := by
  refine Cal.of (by decide +kernel) (Nat.le_of_ble_eq_true rfl) (fun h => by cases h) ?_
  unfold F_X5_remove at h
  show T RX5 cX5_remove 1 none 2 1 0 0 false (eqp (vI 0) LAYC (rfs lw tl tt) M') 0 [aR (some p0)] [] LAYC (rfs lw tl tt) M 0 0
  refine T_aload_n dX5_remove_0 rfl ?_
  refine T_iconst dX5_remove_1 ic_m1 ?_
  obtain ⟨M_1, eM_2, h⟩ := lett_some h
  refine T_putI dX5_remove_2 clOK_X5 fl_X5_9 (Or.inl rfl) (lyX5 h0) rfl rfl eM_2 ?_
  obtain rfl := sm1 h
  exact T_vret dX5_remove_5 ⟨rfl, rfl, rfl, rfl⟩
def F_X5_take (M : Mem) (p0 : Nat) (x1 : Int32) (p2 : Nat) (x3 : Int32) (x4 : Int32) : Option (Mem) :=
 bd1 (F_X5_spans M p2 x3 x4) fun r_1 => if r_1 = 0 then some M
 else bd1 (F_X5_spans M p0 x1 x4) fun r_3 => if r_3 = 0 then some M
 else chk (¬ x3 < 0 ∧ ¬ x1 < 0 ∧ ¬ x4 < 0 ∧ x3.toNatClampNeg + x4.toNatClampNeg ≤ (slen p2) ∧ x1.toNatClampNeg + x4.toNatClampNeg ≤ (slen p0)) (lett (cpI M (p2 + 1) x3.toNatClampNeg (p0 + 1) x1.toNatClampNeg x4.toNatClampNeg) fun M_5 => some M_5)
set_option maxRecDepth 100000 in
set_option maxHeartbeats 4000000 in
theorem m_X5_take (lw : Nat → Option Nat) (tl : Option Nat) (tt : Option Nat) (M : Mem) (p0 : Nat) (x1 : Int32) (p2 : Nat) (x3 : Int32) (x4 : Int32) (h0 : isX5 p0 = true) (h2 : isX5 p2 = true) (M' : Mem) (h : F_X5_take M p0 x1 p2 x3 x4 = some M') : Cal yX5_take cX5_take 5 none 2 2 0 0 false [vR (some p0), vI x1, vR (some p2), vI x3, vI x4] LAYC (rfs lw tl tt) M (eqp (vI 0) LAYC (rfs lw tl tt) M') := by
  refine Cal.of (by decide +kernel) (Nat.le_of_ble_eq_true rfl) (fun h => by cases h) ?_
  unfold F_X5_take at h
  show T RX5 cX5_take 5 none 2 2 0 0 false (eqp (vI 0) LAYC (rfs lw tl tt) M') 0 [aR (some p0), aI x1, aR (some p2), aI x3, aI x4] [] LAYC (rfs lw tl tt) M 0 0
  refine T_aload_n dX5_take_0 rfl ?_
  refine T_iload_n dX5_take_1 rfl ?_
  refine T_iload dX5_take_2 rfl ?_
  obtain ⟨r_1, hc_2, h⟩ := bd1_some h
  refine T_cvi (as := [vI x3, vI x4]) dX5_take_4 cw_X5_spans ml_X5_32 mi_X5_spans se_X5_spans (lyX5 h2) rfl (by decide) rfl (Nat.le_of_ble_eq_true rfl) (Nat.le_of_ble_eq_true rfl) (m_X5_spans lw tl tt M p2 x3 x4 h2 _ hc_2) ?_
  refine T_if_eq (tgt := 35) dX5_take_7 (by decide) (fun hc => ?_) (fun hc => ?_)
  · have h := it_pos hc h
    obtain rfl := sm1 h
    exact T_vret dX5_take_35 ⟨rfl, rfl, rfl, rfl⟩
  · have h := it_neg hc h
    refine T_aload_n dX5_take_10 rfl ?_
    refine T_iload_n dX5_take_11 rfl ?_
    refine T_iload dX5_take_12 rfl ?_
    obtain ⟨r_3, hc_4, h⟩ := bd1_some h
    refine T_cvi (as := [vI x1, vI x4]) dX5_take_14 cw_X5_spans ml_X5_32 mi_X5_spans se_X5_spans (lyX5 h0) rfl (by decide) rfl (Nat.le_of_ble_eq_true rfl) (Nat.le_of_ble_eq_true rfl) (m_X5_spans lw tl tt M p0 x1 x4 h0 _ hc_4) ?_
    refine T_if_eq (tgt := 35) dX5_take_17 (by decide) (fun hc => ?_) (fun hc => ?_)
    · have h := it_pos hc h
      obtain rfl := sm1 h
      exact T_vret dX5_take_35 ⟨rfl, rfl, rfl, rfl⟩
    · have h := it_neg hc h
      refine T_aload_n dX5_take_20 rfl ?_
      refine T_getR dX5_take_21 clOK_X5 fl_X5_21 (lyX5 h2) rfl (rfX5_0 h2) ?_
      refine T_iload_n dX5_take_24 rfl ?_
      refine T_aload_n dX5_take_25 rfl ?_
      refine T_getR dX5_take_26 clOK_X5 fl_X5_21 (lyX5 h0) rfl (rfX5_0 h0) ?_
      refine T_iload_n dX5_take_29 rfl ?_
      refine T_iload dX5_take_30 rfl ?_
      obtain ⟨hc_7, h⟩ := chk_some h
      obtain ⟨M_5, eM_6, h⟩ := lett_some h
      refine T_copy dX5_take_32 ml_X5_36 ac_nat ac_sta ac_ini (lyX5a h2) (lyX5a h0) hc_7.1 hc_7.2.1 hc_7.2.2.1 hc_7.2.2.2.1 hc_7.2.2.2.2 (Nat.le_of_ble_eq_true rfl) (Nat.le_of_ble_eq_true rfl) eM_6 ?_
      obtain rfl := sm1 h
      exact T_vret dX5_take_35 ⟨rfl, rfl, rfl, rfl⟩
def X5_sum_L4 (M : Mem) (p0 : Nat) : Int64 × Int32 → Option ((Int64 × Int32) ⊕ (Int64))
  | (x1, x3) =>
    if (gI M p0 1) ≤ x3 then some (.inr x1)
    else if (nI (slen p0)) ≤ x3 then some (.inr x1)
    else chk (inb x3 (slen p0) = true) (lett (x1 + ((gI M (p0 + 1) x3.toNatClampNeg).toInt64)) fun x_2 => lett (x3 + 1) fun x_4 => some (.inl (x_2, x_4)))
def F_X5_sum (M : Mem) (p0 : Nat) : Option (Int64) :=
 loop (X5_sum_L4 M p0) FU (0, 0)
set_option maxRecDepth 100000 in
set_option maxHeartbeats 4000000 in
theorem s_X5_sum_L4 (lw : Nat → Option Nat) (tl : Option Nat) (tt : Option Nat) (M : Mem) (p0 : Nat) (h0 : isX5 p0 = true) (x1 : Int64) (x3 : Int32) {Po : Po_} (x : (Int64 × Int32) ⊕ (Int64)) (h : X5_sum_L4 M p0 (x1, x3) = some x) (hI : ∀ (ix1 : Int64) (ix3 : Int32), x = .inl (ix1, ix3) → T RX5 cX5_sum 4 (some .long) 1 1 0 0 false Po 4 [aR (some p0), aJ ix1, aU, aI ix3] [] LAYC (rfs lw tl tt) M 0 0) (hE0 : ∀ (er : Int64), x = .inr er → Po (vJ er) LAYC (rfs lw tl tt) M) : T RX5 cX5_sum 4 (some .long) 1 1 0 0 false Po 4 [aR (some p0), aJ x1, aU, aI x3] [] LAYC (rfs lw tl tt) M 0 0 := by
  unfold X5_sum_L4 at h
  simp only at h
  refine T_iload_n dX5_sum_4 rfl ?_
  refine T_aload_n dX5_sum_5 rfl ?_
  refine T_getI dX5_sum_6 clOK_X5 fl_X5_9 (lyX5 h0) rfl ?_
  refine T_icmp_ge (tgt := 37) dX5_sum_9 (by decide) (fun hc => ?_) (fun hc => ?_)
  · have h := it_pos hc h
    refine T_lload_n dX5_sum_37 rfl ?_
    obtain rfl := sm1 h
    exact T_lret dX5_sum_38 (hE0 _ rfl)
  · have h := it_neg hc h
    refine T_iload_n dX5_sum_12 rfl ?_
    refine T_aload_n dX5_sum_13 rfl ?_
    refine T_getR dX5_sum_14 clOK_X5 fl_X5_21 (lyX5 h0) rfl (rfX5_0 h0) ?_
    refine T_alen dX5_sum_17 (lyX5a h0) (Or.inl rfl) rfl ?_
    refine T_icmp_ge (tgt := 37) dX5_sum_18 (by decide) (fun hc => ?_) (fun hc => ?_)
    · have h := it_pos hc h
      refine T_lload_n dX5_sum_37 rfl ?_
      obtain rfl := sm1 h
      exact T_lret dX5_sum_38 (hE0 _ rfl)
    · have h := it_neg hc h
      refine T_lload_n dX5_sum_21 rfl ?_
      refine T_aload_n dX5_sum_22 rfl ?_
      refine T_getR dX5_sum_23 clOK_X5 fl_X5_21 (lyX5 h0) rfl (rfX5_0 h0) ?_
      refine T_iload_n dX5_sum_26 rfl ?_
      obtain ⟨hi_1, h⟩ := chk_some h
      refine T_iald dX5_sum_27 (lyX5a h0) (inb_in hi_1) ?_
      refine T_i2l dX5_sum_28 ?_
      refine T_ladd dX5_sum_29 ?_
      obtain ⟨x_2, ex_3, h⟩ := lett_some h
      refine T_topJ ex_3 ?_
      refine T_lstore_n (i := 1) (L' := [aR (some p0), aJ x_2, aU, aI x3]) dX5_sum_30 rfl (Nat.le_of_ble_eq_true rfl) rfl ?_
      obtain ⟨x_4, ex_5, h⟩ := lett_some h
      refine T_iinc (L' := [aR (some p0), aJ x_2, aU, aI x_4]) dX5_sum_31 rfl (ic_inc ic_1 ex_5) (Nat.le_of_ble_eq_true rfl) rfl ?_
      refine T_goto (tgt := 4) dX5_sum_34 (by decide) ?_
      obtain rfl := sm1 h
      exact hI _ _ rfl
set_option maxRecDepth 100000 in
set_option maxHeartbeats 4000000 in
theorem l_X5_sum_L4 (lw : Nat → Option Nat) (tl : Option Nat) (tt : Option Nat) (M : Mem) (p0 : Nat) (h0 : isX5 p0 = true) {Po : Po_} (er : Int64) : ∀ (k : Nat) (x1 : Int64) (x3 : Int32), loop (X5_sum_L4 M p0) k (x1, x3) = some er → (Po (vJ er) LAYC (rfs lw tl tt) M) → T RX5 cX5_sum 4 (some .long) 1 1 0 0 false Po 4 [aR (some p0), aJ x1, aU, aI x3] [] LAYC (rfs lw tl tt) M 0 0 := by
  intro k
  induction k with
  | zero => intro x1 x3 h; cases h
  | succ k ih =>
    intro x1 x3 h hE
    obtain ⟨x, hx, hx1, hx2⟩ := loop_succ h
    exact s_X5_sum_L4  lw tl tt M p0 h0 x1 x3 x hx (fun q0 q1 e => ih q0 q1 (hx1 _ e) hE) (fun q0 e => by cases hx2 _ e; exact hE)
set_option maxRecDepth 100000 in
set_option maxHeartbeats 4000000 in
theorem m_X5_sum (lw : Nat → Option Nat) (tl : Option Nat) (tt : Option Nat) (M : Mem) (p0 : Nat) (h0 : isX5 p0 = true) (r : Int64) (h : F_X5_sum M p0 = some r) : Cal yX5_sum cX5_sum 4 (some .long) 1 1 0 0 false [vR (some p0)] LAYC (rfs lw tl tt) M (eqp (vJ r) LAYC (rfs lw tl tt) M) := by
  refine Cal.of (by decide +kernel) (Nat.le_of_ble_eq_true rfl) (fun h => by cases h) ?_
  unfold F_X5_sum at h
  show T RX5 cX5_sum 4 (some .long) 1 1 0 0 false (eqp (vJ r) LAYC (rfs lw tl tt) M) 0 [aR (some p0), aU, aU, aU] [] LAYC (rfs lw tl tt) M 0 0
  refine T_lconst dX5_sum_0 lc_0 ?_
  refine T_lstore_n (i := 1) (L' := [aR (some p0), aJ 0, aU, aU]) dX5_sum_1 rfl (Nat.le_of_ble_eq_true rfl) rfl ?_
  refine T_iconst dX5_sum_2 ic_0 ?_
  refine T_istore_n (i := 3) (L' := [aR (some p0), aJ 0, aU, aI 0]) dX5_sum_3 rfl (Nat.le_of_ble_eq_true rfl) rfl ?_
  exact l_X5_sum_L4  lw tl tt M p0 h0 _ FU 0 0 h ⟨rfl, rfl, rfl, rfl⟩
def X5_digestOnto_L15 (M : Mem) (p0 : Nat) : Int64 × Int32 → Option ((Int64 × Int32) ⊕ (Int64))
  | (x3, x5) =>
    if (gI M p0 1) ≤ x5 then some (.inr x3)
    else if (nI (slen p0)) ≤ x5 then some (.inr x3)
    else chk (inb x5 (slen p0) = true) (lett ((31 * x3) + ((gI M (p0 + 1) x5.toNatClampNeg).toInt64)) fun x_4 => lett (x5 + 1) fun x_6 => some (.inl (x_4, x_6)))
def F_X5_digestOnto (M : Mem) (p0 : Nat) (x1 : Int64) : Option (Int64) :=
 lett ((31 * x1) + ((gI M p0 1).toInt64)) fun x_1 => loop (X5_digestOnto_L15 M p0) FU (x_1, 0)
set_option maxRecDepth 100000 in
set_option maxHeartbeats 4000000 in
theorem s_X5_digestOnto_L15 (lw : Nat → Option Nat) (tl : Option Nat) (tt : Option Nat) (M : Mem) (p0 : Nat) (h0 : isX5 p0 = true) (x3 : Int64) (x5 : Int32) {Po : Po_} (x : (Int64 × Int32) ⊕ (Int64)) (h : X5_digestOnto_L15 M p0 (x3, x5) = some x) (hI : ∀ (ix3 : Int64) (ix5 : Int32), x = .inl (ix3, ix5) → T RX5 cX5_digestOnto 6 (some .long) 1 1 0 0 false Po 15 [aR (some p0), aU, aU, aJ ix3, aU, aI ix5] [] LAYC (rfs lw tl tt) M 0 0) (hE0 : ∀ (er : Int64), x = .inr er → Po (vJ er) LAYC (rfs lw tl tt) M) : T RX5 cX5_digestOnto 6 (some .long) 1 1 0 0 false Po 15 [aR (some p0), aU, aU, aJ x3, aU, aI x5] [] LAYC (rfs lw tl tt) M 0 0 := by
  unfold X5_digestOnto_L15 at h
  simp only at h
  refine T_iload dX5_digestOnto_15 rfl ?_
  refine T_aload_n dX5_digestOnto_17 rfl ?_
  refine T_getI dX5_digestOnto_18 clOK_X5 fl_X5_9 (lyX5 h0) rfl ?_
  refine T_icmp_ge (tgt := 55) dX5_digestOnto_21 (by decide) (fun hc => ?_) (fun hc => ?_)
  · have h := it_pos hc h
    refine T_lload_n dX5_digestOnto_55 rfl ?_
    obtain rfl := sm1 h
    exact T_lret dX5_digestOnto_56 (hE0 _ rfl)
  · have h := it_neg hc h
    refine T_iload dX5_digestOnto_24 rfl ?_
    refine T_aload_n dX5_digestOnto_26 rfl ?_
    refine T_getR dX5_digestOnto_27 clOK_X5 fl_X5_21 (lyX5 h0) rfl (rfX5_0 h0) ?_
    refine T_alen dX5_digestOnto_30 (lyX5a h0) (Or.inl rfl) rfl ?_
    refine T_icmp_ge (tgt := 55) dX5_digestOnto_31 (by decide) (fun hc => ?_) (fun hc => ?_)
    · have h := it_pos hc h
      refine T_lload_n dX5_digestOnto_55 rfl ?_
      obtain rfl := sm1 h
      exact T_lret dX5_digestOnto_56 (hE0 _ rfl)
    · have h := it_neg hc h
      refine T_ldc2 dX5_digestOnto_34 kl_X5_42 ?_
      refine T_lload_n dX5_digestOnto_37 rfl ?_
      refine T_lmul dX5_digestOnto_38 ?_
      refine T_aload_n dX5_digestOnto_39 rfl ?_
      refine T_getR dX5_digestOnto_40 clOK_X5 fl_X5_21 (lyX5 h0) rfl (rfX5_0 h0) ?_
      refine T_iload dX5_digestOnto_43 rfl ?_
      obtain ⟨hi_3, h⟩ := chk_some h
      refine T_iald dX5_digestOnto_45 (lyX5a h0) (inb_in hi_3) ?_
      refine T_i2l dX5_digestOnto_46 ?_
      refine T_ladd dX5_digestOnto_47 ?_
      obtain ⟨x_4, ex_5, h⟩ := lett_some h
      refine T_topJ ex_5 ?_
      refine T_lstore_n (i := 3) (L' := [aR (some p0), aU, aU, aJ x_4, aU, aI x5]) dX5_digestOnto_48 rfl (Nat.le_of_ble_eq_true rfl) rfl ?_
      obtain ⟨x_6, ex_7, h⟩ := lett_some h
      refine T_iinc (L' := [aR (some p0), aU, aU, aJ x_4, aU, aI x_6]) dX5_digestOnto_49 rfl (ic_inc ic_1 ex_7) (Nat.le_of_ble_eq_true rfl) rfl ?_
      refine T_goto (tgt := 15) dX5_digestOnto_52 (by decide) ?_
      obtain rfl := sm1 h
      exact hI _ _ rfl
set_option maxRecDepth 100000 in
set_option maxHeartbeats 4000000 in
theorem l_X5_digestOnto_L15 (lw : Nat → Option Nat) (tl : Option Nat) (tt : Option Nat) (M : Mem) (p0 : Nat) (h0 : isX5 p0 = true) {Po : Po_} (er : Int64) : ∀ (k : Nat) (x3 : Int64) (x5 : Int32), loop (X5_digestOnto_L15 M p0) k (x3, x5) = some er → (Po (vJ er) LAYC (rfs lw tl tt) M) → T RX5 cX5_digestOnto 6 (some .long) 1 1 0 0 false Po 15 [aR (some p0), aU, aU, aJ x3, aU, aI x5] [] LAYC (rfs lw tl tt) M 0 0 := by
  intro k
  induction k with
  | zero => intro x3 x5 h; cases h
  | succ k ih =>
    intro x3 x5 h hE
    obtain ⟨x, hx, hx1, hx2⟩ := loop_succ h
    exact s_X5_digestOnto_L15  lw tl tt M p0 h0 x3 x5 x hx (fun q0 q1 e => ih q0 q1 (hx1 _ e) hE) (fun q0 e => by cases hx2 _ e; exact hE)
set_option maxRecDepth 100000 in
set_option maxHeartbeats 4000000 in
theorem m_X5_digestOnto (lw : Nat → Option Nat) (tl : Option Nat) (tt : Option Nat) (M : Mem) (p0 : Nat) (x1 : Int64) (h0 : isX5 p0 = true) (r : Int64) (h : F_X5_digestOnto M p0 x1 = some r) : Cal yX5_digestOnto cX5_digestOnto 6 (some .long) 1 1 0 0 false [vR (some p0), vJ x1] LAYC (rfs lw tl tt) M (eqp (vJ r) LAYC (rfs lw tl tt) M) := by
  refine Cal.of (by decide +kernel) (Nat.le_of_ble_eq_true rfl) (fun h => by cases h) ?_
  unfold F_X5_digestOnto at h
  show T RX5 cX5_digestOnto 6 (some .long) 1 1 0 0 false (eqp (vJ r) LAYC (rfs lw tl tt) M) 0 [aR (some p0), aJ x1, aU, aU, aU, aU] [] LAYC (rfs lw tl tt) M 0 0
  refine T_ldc2 dX5_digestOnto_0 kl_X5_42 ?_
  refine T_lload_n dX5_digestOnto_3 rfl ?_
  refine T_lmul dX5_digestOnto_4 ?_
  refine T_aload_n dX5_digestOnto_5 rfl ?_
  refine T_getI dX5_digestOnto_6 clOK_X5 fl_X5_9 (lyX5 h0) rfl ?_
  refine T_i2l dX5_digestOnto_9 ?_
  refine T_ladd dX5_digestOnto_10 ?_
  obtain ⟨x_1, ex_2, h⟩ := lett_some h
  refine T_topJ ex_2 ?_
  refine T_lstore_n (i := 3) (L' := [aR (some p0), aJ x1, aU, aJ x_1, aU, aU]) dX5_digestOnto_11 rfl (Nat.le_of_ble_eq_true rfl) rfl ?_
  refine T_iconst dX5_digestOnto_12 ic_0 ?_
  refine T_istore (i := 5) (L' := [aR (some p0), aJ x1, aU, aJ x_1, aU, aI 0]) dX5_digestOnto_13 (Nat.le_of_ble_eq_true rfl) rfl ?_
  refine T_mask [true, false, true, true, true, true] rfl ?_
  exact l_X5_digestOnto_L15  lw tl tt M p0 h0 _ FU x_1 0 h ⟨rfl, rfl, rfl, rfl⟩
def F_X6_want (tl : Option Nat) (tt : Option Nat) (M : Mem) (p1 : Nat) (p2 : Nat) (x3 : Int32) (x4 : Int32) : Option (Option Nat × Option Nat × Mem) :=
 lett (sI M 19 5 x3) fun M_1 => lett (sI M_1 19 6 x4) fun M_3 => some ((some p1), (some p2), M_3)
set_option maxRecDepth 100000 in
set_option maxHeartbeats 4000000 in
theorem m_X6_want (lw : Nat → Option Nat) (tl : Option Nat) (tt : Option Nat) (M : Mem) (p1 : Nat) (p2 : Nat) (x3 : Int32) (x4 : Int32) (h1 : isX3 p1 = true) (h2 : isX1 p2 = true) (tl' : Option Nat) (tt' : Option Nat) (M' : Mem) (h : F_X6_want tl tt M p1 p2 x3 x4 = some (tl', tt', M')) : Cal yX6_want cX6_want 5 none 2 1 0 0 false [vR (some 19), vR (some p1), vR (some p2), vI x3, vI x4] LAYC (rfs lw tl tt) M (eqp (vI 0) LAYC (rfs lw tl' tt') M') := by
  refine Cal.of (by decide +kernel) (Nat.le_of_ble_eq_true rfl) (fun h => by cases h) ?_
  unfold F_X6_want at h
  show T RX6 cX6_want 5 none 2 1 0 0 false (eqp (vI 0) LAYC (rfs lw tl' tt') M') 0 [aR (some 19), aR (some p1), aR (some p2), aI x3, aI x4] [] LAYC (rfs lw tl tt) M 0 0
  refine T_aload_n dX6_want_0 rfl ?_
  refine T_aload_n dX6_want_1 rfl ?_
  refine T_putR dX6_want_2 clOK_X6 fl_X6_28 (Or.inl rfl) lyC_19 rfl (Or.inl ⟨_, rfl⟩) rfs_tl ?_
  refine T_aload_n dX6_want_5 rfl ?_
  refine T_aload_n dX6_want_6 rfl ?_
  refine T_putR dX6_want_7 clOK_X6 fl_X6_32 (Or.inl rfl) lyC_19 rfl (Or.inl ⟨_, rfl⟩) rfs_tt ?_
  refine T_aload_n dX6_want_10 rfl ?_
  refine T_iload_n dX6_want_11 rfl ?_
  obtain ⟨M_1, eM_2, h⟩ := lett_some h
  refine T_putI dX6_want_12 clOK_X6 fl_X6_35 (Or.inl rfl) lyC_19 rfl rfl eM_2 ?_
  refine T_aload_n dX6_want_15 rfl ?_
  refine T_iload dX6_want_16 rfl ?_
  obtain ⟨M_3, eM_4, h⟩ := lett_some h
  refine T_putI dX6_want_18 clOK_X6 fl_X6_39 (Or.inl rfl) lyC_19 rfl rfl eM_4 ?_
  obtain ⟨rfl, rfl, rfl⟩ := sm3 h
  exact T_vret dX6_want_21 ⟨rfl, rfl, rfl, rfl⟩
