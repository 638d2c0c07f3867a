def X8_fair_L30 (lw : Nat → Option Nat) (M : Mem) (p2 : Nat) : Int32 × Int32 → Option ((Int32 × Int32) ⊕ (Int32 × Mem))
  | (x3, x4) =>
    if (gI M 0 8) ≤ x4 then some (.inr (x3, M))
    else bd1 (F_X8_lawOf lw M x4) fun o_5 => oc o_5 (lett (x4 + 1) fun x_8 => some (.inl (x3, x_8)))
    (fun q_7 => chk (isX3 q_7 = true) (bd1 (F_X3_isFair M q_7 p2 9) fun r_11 => if r_11 = 0 then lett (x4 + 1) fun x_13 => some (.inl (x3, x_13))
    else lett (x3 ||| (ish 1 x4)) fun x_15 => lett (x4 + 1) fun x_17 => some (.inl (x_15, x_17))))
def F_X8_fair (lw : Nat → Option Nat) (M : Mem) (x1 : Int32) : Option (Int32 × Mem) :=
 bd1 (F_X8_imageOf x1) fun o_1 => oc o_1 (some ((-1), M))
 (fun q_3 => chk (isX1 q_3 = true) (if (gI M q_3 7) = 0 then bd2 (F_X8_found M 1) fun r_19 M_20 => some (r_19, M_20)
 else loop (X8_fair_L30 lw M q_3) FU (0, 0)))
set_option maxRecDepth 100000 in
set_option maxHeartbeats 4000000 in
theorem s_X8_fair_L30 (tl : Option Nat) (tt : Option Nat) (lw : Nat → Option Nat) (M : Mem) (p2 : Nat) (h2 : isX1 p2 = true) (x3 : Int32) (x4 : Int32) {Po : Po_} (x : (Int32 × Int32) ⊕ (Int32 × Mem)) (h : X8_fair_L30 lw M p2 (x3, x4) = some x) (hI : ∀ (ix3 : Int32) (ix4 : Int32), x = .inl (ix3, ix4) → T RX8 cX8_fair 6 (some .int) 0 6 0 0 false Po 30 [aR (some 0), aU, aR (some p2), aI ix3, aI ix4, aU] [] LAYC (rfs lw tl tt) M 0 0) (hE0 : ∀ (er : Int32) (eM : Mem), x = .inr (er, eM) → Po (vI er) LAYC (rfs lw tl tt) eM) : T RX8 cX8_fair 6 (some .int) 0 6 0 0 false Po 30 [aR (some 0), aU, aR (some p2), aI x3, aI x4, aU] [] LAYC (rfs lw tl tt) M 0 0 := by
  unfold X8_fair_L30 at h
  simp only at h
  refine T_iload dX8_fair_30 rfl ?_
  refine T_aload_n dX8_fair_32 rfl ?_
  refine T_getI dX8_fair_33 clOK_X8 fl_X8_246 lyC_0 rfl ?_
  refine T_icmp_ge (tgt := 78) dX8_fair_36 (by decide) (fun hc => ?_) (fun hc => ?_)
  · have h := it_pos hc h
    refine T_iload_n dX8_fair_78 rfl ?_
    obtain rfl := sm1 h
    exact T_iret dX8_fair_79 (hE0 _ _ rfl)
  · have h := it_neg hc h
    refine T_aload_n dX8_fair_39 rfl ?_
    refine T_iload dX8_fair_40 rfl ?_
    obtain ⟨o_5, hc_6, h⟩ := bd1_some h
    refine T_cvq (as := [vI x4]) dX8_fair_42 cw_X8_lawOf ml_X8_175 mi_X8_lawOf se_X8_lawOf lyC_0 rfl (by decide) rfl (Nat.le_of_ble_eq_true rfl) (Nat.le_of_ble_eq_true rfl) (m_X8_lawOf tl tt lw M x4  _ hc_6) ?_
    refine T_astore (i := 5) (L' := [aR (some 0), aU, aR (some p2), aI x3, aI x4, aR o_5]) dX8_fair_45 (Nat.le_of_ble_eq_true rfl) rfl ?_
    refine T_aload dX8_fair_47 rfl ?_
    cases o_5 with
    | none =>
      have h := oc_none h
      refine T_ifnull0 (tgt := 72) dX8_fair_49 (by decide) ?_
      obtain ⟨x_8, ex_9, h⟩ := lett_some h
      refine T_iinc (L' := [aR (some 0), aU, aR (some p2), aI x3, aI x_8, aR none]) dX8_fair_72 rfl (ic_inc ic_1 ex_9) (Nat.le_of_ble_eq_true rfl) rfl ?_
      refine T_goto (tgt := 30) dX8_fair_75 (by decide) ?_
      obtain rfl := sm1 h
      refine T_mask [true, true, true, true, true, false] rfl ?_
      exact hI _ _ rfl
    | some q_7 =>
      have h := oc_some h
      refine T_ifnull1 dX8_fair_49 ?_
      refine T_aload dX8_fair_52 rfl ?_
      refine T_aload_n dX8_fair_54 rfl ?_
      refine T_aload_n dX8_fair_55 rfl ?_
      refine T_getR dX8_fair_56 clOK_X8 fl_X8_37 lyC_0 rfl rfl ?_
      obtain ⟨hf_10, h⟩ := chk_some h
      obtain ⟨r_11, hc_12, h⟩ := bd1_some h
      refine T_cvi (as := [vR (some p2), vR (some 9)]) dX8_fair_59 cw_X3_isFair ml_X8_249 mi_X3_isFair se_X3_isFair (lyX3 hf_10) rfl (by decide) rfl (Nat.le_of_ble_eq_true rfl) (Nat.le_of_ble_eq_true rfl) (m_X3_isFair lw tl tt M q_7 p2 9 hf_10 h2 rfl _ hc_12) ?_
      refine T_if_eq (tgt := 72) dX8_fair_62 (by decide) (fun hc => ?_) (fun hc => ?_)
      · have h := it_pos hc h
        obtain ⟨x_13, ex_14, h⟩ := lett_some h
        refine T_iinc (L' := [aR (some 0), aU, aR (some p2), aI x3, aI x_13, aR (some q_7)]) dX8_fair_72 rfl (ic_inc ic_1 ex_14) (Nat.le_of_ble_eq_true rfl) rfl ?_
        refine T_goto (tgt := 30) dX8_fair_75 (by decide) ?_
        obtain rfl := sm1 h
        refine T_mask [true, true, true, true, true, false] rfl ?_
        exact hI _ _ rfl
      · have h := it_neg hc h
        refine T_iload_n dX8_fair_65 rfl ?_
        refine T_iconst dX8_fair_66 ic_1 ?_
        refine T_iload dX8_fair_67 rfl ?_
        refine T_ishl dX8_fair_69 ?_
        refine T_ior dX8_fair_70 ?_
        obtain ⟨x_15, ex_16, h⟩ := lett_some h
        refine T_topI ex_16 ?_
        refine T_istore_n (i := 3) (L' := [aR (some 0), aU, aR (some p2), aI x_15, aI x4, aR (some q_7)]) dX8_fair_71 rfl (Nat.le_of_ble_eq_true rfl) rfl ?_
        obtain ⟨x_17, ex_18, h⟩ := lett_some h
        refine T_iinc (L' := [aR (some 0), aU, aR (some p2), aI x_15, aI x_17, aR (some q_7)]) dX8_fair_72 rfl (ic_inc ic_1 ex_18) (Nat.le_of_ble_eq_true rfl) rfl ?_
        refine T_goto (tgt := 30) dX8_fair_75 (by decide) ?_
        obtain rfl := sm1 h
        refine T_mask [true, true, true, true, true, false] rfl ?_
        exact hI _ _ rfl
set_option maxRecDepth 100000 in
set_option maxHeartbeats 4000000 in
theorem l_X8_fair_L30 (tl : Option Nat) (tt : Option Nat) (lw : Nat → Option Nat) (M : Mem) (p2 : Nat) (h2 : isX1 p2 = true) {Po : Po_} (er : Int32) (eM : Mem) : ∀ (k : Nat) (x3 : Int32) (x4 : Int32), loop (X8_fair_L30 lw M p2) k (x3, x4) = some (er, eM) → (Po (vI er) LAYC (rfs lw tl tt) eM) → T RX8 cX8_fair 6 (some .int) 0 6 0 0 false Po 30 [aR (some 0), aU, aR (some p2), aI x3, aI x4, aU] [] LAYC (rfs lw tl tt) M 0 0 := by
  intro k
  induction k with
  | zero => intro x3 x4 h; cases h
  | succ k ih =>
    intro x3 x4 h hE
    obtain ⟨x, hx, hx1, hx2⟩ := loop_succ h
    exact s_X8_fair_L30  tl tt lw M p2 h2 x3 x4 x hx (fun q0 q1 e => ih q0 q1 (hx1 _ e) hE) (fun q0 q1 e => by cases hx2 _ e; exact hE)
set_option maxRecDepth 100000 in
set_option maxHeartbeats 4000000 in
theorem m_X8_fair (tl : Option Nat) (tt : Option Nat) (lw : Nat → Option Nat) (M : Mem) (x1 : Int32) (r : Int32) (M' : Mem) (h : F_X8_fair lw M x1 = some (r, M')) : Cal yX8_fair cX8_fair 6 (some .int) 0 6 0 0 false [vR (some 0), vI x1] LAYC (rfs lw tl tt) M (eqp (vI r) LAYC (rfs lw tl tt) M') := by
  refine Cal.of (by decide +kernel) (Nat.le_of_ble_eq_true rfl) (fun h => by cases h) ?_
  unfold F_X8_fair at h
  show T RX8 cX8_fair 6 (some .int) 0 6 0 0 false (eqp (vI r) LAYC (rfs lw tl tt) M') 0 [aR (some 0), aI x1, aU, aU, aU, aU] [] LAYC (rfs lw tl tt) M 0 0
  refine T_aload_n dX8_fair_0 rfl ?_
  refine T_iload_n dX8_fair_1 rfl ?_
  obtain ⟨o_1, hc_2, h⟩ := bd1_some h
  refine T_cvq (as := [vI x1]) dX8_fair_2 cw_X8_imageOf ml_X8_225 mi_X8_imageOf se_X8_imageOf lyC_0 rfl (by decide) rfl (Nat.le_of_ble_eq_true rfl) (Nat.le_of_ble_eq_true rfl) (m_X8_imageOf lw tl tt M x1  _ hc_2) ?_
  refine T_astore_n (i := 2) (L' := [aR (some 0), aI x1, aR o_1, aU, aU, aU]) dX8_fair_5 rfl (Nat.le_of_ble_eq_true rfl) rfl ?_
  refine T_aload_n dX8_fair_6 rfl ?_
  cases o_1 with
  | none =>
    have h := oc_none h
    refine T_ifnonnull0 dX8_fair_7 ?_
    refine T_iconst dX8_fair_10 ic_m1 ?_
    obtain ⟨rfl, rfl⟩ := sm2 h
    exact T_iret dX8_fair_11 ⟨rfl, rfl, rfl, rfl⟩
  | some q_3 =>
    have h := oc_some h
    refine T_ifnonnull1 (tgt := 12) dX8_fair_7 (by decide) ?_
    refine T_aload_n dX8_fair_12 rfl ?_
    obtain ⟨hf_4, h⟩ := chk_some h
    refine T_getZ dX8_fair_13 clOK_X1 fl_X8_210 (lyX1 hf_4) rfl ?_
    refine T_if_ne (tgt := 25) dX8_fair_16 (by decide) (fun hc => ?_) (fun hc => ?_)
    · have h := it_neg hc h
      refine T_iconst dX8_fair_25 ic_0 ?_
      refine T_istore_n (i := 3) (L' := [aR (some 0), aI x1, aR (some q_3), aI 0, aU, aU]) dX8_fair_26 rfl (Nat.le_of_ble_eq_true rfl) rfl ?_
      refine T_iconst dX8_fair_27 ic_0 ?_
      refine T_istore (i := 4) (L' := [aR (some 0), aI x1, aR (some q_3), aI 0, aI 0, aU]) dX8_fair_28 (Nat.le_of_ble_eq_true rfl) rfl ?_
      refine T_mask [true, false, true, true, true, true] rfl ?_
      exact l_X8_fair_L30  tl tt lw M q_3 hf_4 _ _ FU 0 0 h ⟨rfl, rfl, rfl, rfl⟩
    · have h := it_pos hc h
      refine T_aload_n dX8_fair_19 rfl ?_
      refine T_iconst dX8_fair_20 ic_1 ?_
      obtain ⟨r_19, M_20, hc_21, h⟩ := bd2_some h
      refine T_cvi (as := [vI 1]) dX8_fair_21 cw_X8_found ml_X8_100 mi_X8_found se_X8_found lyC_0 rfl (by decide) rfl (Nat.le_of_ble_eq_true rfl) (Nat.le_of_ble_eq_true rfl) (m_X8_found lw tl tt M 1  _ _ hc_21) ?_
      obtain ⟨rfl, rfl⟩ := sm2 h
      exact T_iret dX8_fair_24 ⟨rfl, rfl, rfl, rfl⟩
def X8_shovels_L33 (M : Mem) (p2 : Nat) : Int32 × Int32 × Int32 → Option ((Int32 × Int32 × Int32) ⊕ (Int32 × Mem))
  | (x3, x4, x5) =>
    if (gI M 7 0) ≤ x5 then lett (sI M 0 12 x4) fun M_5 => some (.inr (x3, M_5))
    else bd1 (F_X1_depthAt M 9 x5) fun r_7 => bd1 (F_X1_depthAt M p2 x5) fun r_9 => lett (r_7 - r_9) fun x_11 => bd1 (F_J9_abs_0f7a4 x_11) fun r_13 => lett (x3 + r_13) fun x_15 => lett (x4 + x_11) fun x_17 => lett (x5 + 1) fun x_19 => some (.inl (x_15, x_17, x_19))
def F_X8_shovels (M : Mem) (x1 : Int32) : Option (Int32 × Mem) :=
 bd1 (F_X8_imageOf x1) fun o_1 => oc o_1 (some ((-1), M))
 (fun q_3 => chk (isX1 q_3 = true) (if (gI M q_3 7) = 0 then bd2 (F_X8_found M 1) fun r_21 M_22 => some (r_21, M_22)
 else loop (X8_shovels_L33 M q_3) FU (0, 0, 0)))
set_option maxRecDepth 100000 in
set_option maxHeartbeats 4000000 in
theorem s_X8_shovels_L33 (lw : Nat → Option Nat) (tl : Option Nat) (tt : Option Nat) (M : Mem) (p2 : Nat) (h2 : isX1 p2 = true) (x3 : Int32) (x4 : Int32) (x5 : Int32) {Po : Po_} (x : (Int32 × Int32 × Int32) ⊕ (Int32 × Mem)) (h : X8_shovels_L33 M p2 (x3, x4, x5) = some x) (hI : ∀ (ix3 : Int32) (ix4 : Int32) (ix5 : Int32), x = .inl (ix3, ix4, ix5) → T RX8 cX8_shovels 7 (some .int) 0 2 0 0 false Po 33 [aR (some 0), aU, aR (some p2), aI ix3, aI ix4, aI ix5, aU] [] LAYC (rfs lw tl tt) M 0 0) (hE0 : ∀ (er : Int32) (eM : Mem), x = .inr (er, eM) → Po (vI er) LAYC (rfs lw tl tt) eM) : T RX8 cX8_shovels 7 (some .int) 0 2 0 0 false Po 33 [aR (some 0), aU, aR (some p2), aI x3, aI x4, aI x5, aU] [] LAYC (rfs lw tl tt) M 0 0 := by
  unfold X8_shovels_L33 at h
  simp only at h
  refine T_iload dX8_shovels_33 rfl ?_
  refine T_aload_n dX8_shovels_35 rfl ?_
  refine T_getR dX8_shovels_36 clOK_X8 fl_X8_28 lyC_0 rfl rfl ?_
  refine T_getI dX8_shovels_39 clOK_X2 fl_X8_164 lyC_7 rfl ?_
  refine T_icmp_ge (tgt := 84) dX8_shovels_42 (by decide) (fun hc => ?_) (fun hc => ?_)
  · have h := it_pos hc h
    refine T_aload_n dX8_shovels_84 rfl ?_
    refine T_iload dX8_shovels_85 rfl ?_
    obtain ⟨M_5, eM_6, h⟩ := lett_some h
    refine T_putI dX8_shovels_87 clOK_X8 fl_X8_107 (Or.inl rfl) lyC_0 rfl rfl eM_6 ?_
    refine T_iload_n dX8_shovels_90 rfl ?_
    obtain rfl := sm1 h
    exact T_iret dX8_shovels_91 (hE0 _ _ rfl)
  · have h := it_neg hc h
    refine T_aload_n dX8_shovels_45 rfl ?_
    refine T_getR dX8_shovels_46 clOK_X8 fl_X8_37 lyC_0 rfl rfl ?_
    refine T_iload dX8_shovels_49 rfl ?_
    obtain ⟨r_7, hc_8, h⟩ := bd1_some h
    refine T_cvi (as := [vI x5]) dX8_shovels_51 cw_X1_depthAt ml_X8_203 mi_X1_depthAt se_X1_depthAt lyC_9 rfl (by decide) rfl (Nat.le_of_ble_eq_true rfl) (Nat.le_of_ble_eq_true rfl) (m_X1_depthAt lw tl tt M 9 x5 rfl _ hc_8) ?_
    refine T_aload_n dX8_shovels_54 rfl ?_
    refine T_iload dX8_shovels_55 rfl ?_
    obtain ⟨r_9, hc_10, h⟩ := bd1_some h
    refine T_cvi (as := [vI x5]) dX8_shovels_57 cw_X1_depthAt ml_X8_203 mi_X1_depthAt se_X1_depthAt (lyX1 h2) rfl (by decide) rfl (Nat.le_of_ble_eq_true rfl) (Nat.le_of_ble_eq_true rfl) (m_X1_depthAt lw tl tt M p2 x5 h2 _ hc_10) ?_
    refine T_isub dX8_shovels_60 ?_
    obtain ⟨x_11, ex_12, h⟩ := lett_some h
    refine T_topI ex_12 ?_
    refine T_istore (i := 6) (L' := [aR (some 0), aU, aR (some p2), aI x3, aI x4, aI x5, aI x_11]) dX8_shovels_61 (Nat.le_of_ble_eq_true rfl) rfl ?_
    refine T_iload_n dX8_shovels_63 rfl ?_
    refine T_iload dX8_shovels_64 rfl ?_
    obtain ⟨r_13, hc_14, h⟩ := bd1_some h
    refine T_csi (as := [vI x_11]) dX8_shovels_66 cw_J9_abs_0f7a4 ml_X8_253 mt_J9_abs_0f7a4 rfl (Nat.le_of_ble_eq_true rfl) (Nat.le_of_ble_eq_true rfl) (m_J9_abs_0f7a4 LAYC (rfs lw tl tt) M x_11  _ hc_14) ?_
    refine T_iadd dX8_shovels_69 ?_
    obtain ⟨x_15, ex_16, h⟩ := lett_some h
    refine T_topI ex_16 ?_
    refine T_istore_n (i := 3) (L' := [aR (some 0), aU, aR (some p2), aI x_15, aI x4, aI x5, aI x_11]) dX8_shovels_70 rfl (Nat.le_of_ble_eq_true rfl) rfl ?_
    refine T_iload dX8_shovels_71 rfl ?_
    refine T_iload dX8_shovels_73 rfl ?_
    refine T_iadd dX8_shovels_75 ?_
    obtain ⟨x_17, ex_18, h⟩ := lett_some h
    refine T_topI ex_18 ?_
    refine T_istore (i := 4) (L' := [aR (some 0), aU, aR (some p2), aI x_15, aI x_17, aI x5, aI x_11]) dX8_shovels_76 (Nat.le_of_ble_eq_true rfl) rfl ?_
    obtain ⟨x_19, ex_20, h⟩ := lett_some h
    refine T_iinc (L' := [aR (some 0), aU, aR (some p2), aI x_15, aI x_17, aI x_19, aI x_11]) dX8_shovels_78 rfl (ic_inc ic_1 ex_20) (Nat.le_of_ble_eq_true rfl) rfl ?_
    refine T_goto (tgt := 33) dX8_shovels_81 (by decide) ?_
    obtain rfl := sm1 h
    refine T_mask [true, true, true, true, true, true, false] rfl ?_
    exact hI _ _ _ rfl
set_option maxRecDepth 100000 in
set_option maxHeartbeats 4000000 in
theorem l_X8_shovels_L33 (lw : Nat → Option Nat) (tl : Option Nat) (tt : Option Nat) (M : Mem) (p2 : Nat) (h2 : isX1 p2 = true) {Po : Po_} (er : Int32) (eM : Mem) : ∀ (k : Nat) (x3 : Int32) (x4 : Int32) (x5 : Int32), loop (X8_shovels_L33 M p2) k (x3, x4, x5) = some (er, eM) → (Po (vI er) LAYC (rfs lw tl tt) eM) → T RX8 cX8_shovels 7 (some .int) 0 2 0 0 false Po 33 [aR (some 0), aU, aR (some p2), aI x3, aI x4, aI x5, aU] [] LAYC (rfs lw tl tt) M 0 0 := by
  intro k
  induction k with
  | zero => intro x3 x4 x5 h; cases h
  | succ k ih =>
    intro x3 x4 x5 h hE
    obtain ⟨x, hx, hx1, hx2⟩ := loop_succ h
    exact s_X8_shovels_L33  lw tl tt M p2 h2 x3 x4 x5 x hx (fun q0 q1 q2 e => ih q0 q1 q2 (hx1 _ e) hE) (fun q0 q1 e => by cases hx2 _ e; exact hE)
set_option maxRecDepth 100000 in
set_option maxHeartbeats 4000000 in
theorem m_X8_shovels (lw : Nat → Option Nat) (tl : Option Nat) (tt : Option Nat) (M : Mem) (x1 : Int32) (r : Int32) (M' : Mem) (h : F_X8_shovels M x1 = some (r, M')) : Cal yX8_shovels cX8_shovels 7 (some .int) 0 2 0 0 false [vR (some 0), vI x1] LAYC (rfs lw tl tt) M (eqp (vI r) LAYC (rfs lw tl tt) M') := by
  refine Cal.of (by decide +kernel) (Nat.le_of_ble_eq_true rfl) (fun h => by cases h) ?_
  unfold F_X8_shovels at h
  show T RX8 cX8_shovels 7 (some .int) 0 2 0 0 false (eqp (vI r) LAYC (rfs lw tl tt) M') 0 [aR (some 0), aI x1, aU, aU, aU, aU, aU] [] LAYC (rfs lw tl tt) M 0 0
  refine T_aload_n dX8_shovels_0 rfl ?_
  refine T_iload_n dX8_shovels_1 rfl ?_
  obtain ⟨o_1, hc_2, h⟩ := bd1_some h
  refine T_cvq (as := [vI x1]) dX8_shovels_2 cw_X8_imageOf ml_X8_225 mi_X8_imageOf se_X8_imageOf lyC_0 rfl (by decide) rfl (Nat.le_of_ble_eq_true rfl) (Nat.le_of_ble_eq_true rfl) (m_X8_imageOf lw tl tt M x1  _ hc_2) ?_
  refine T_astore_n (i := 2) (L' := [aR (some 0), aI x1, aR o_1, aU, aU, aU, aU]) dX8_shovels_5 rfl (Nat.le_of_ble_eq_true rfl) rfl ?_
  refine T_aload_n dX8_shovels_6 rfl ?_
  cases o_1 with
  | none =>
    have h := oc_none h
    refine T_ifnonnull0 dX8_shovels_7 ?_
    refine T_iconst dX8_shovels_10 ic_m1 ?_
    obtain ⟨rfl, rfl⟩ := sm2 h
    exact T_iret dX8_shovels_11 ⟨rfl, rfl, rfl, rfl⟩
  | some q_3 =>
    have h := oc_some h
    refine T_ifnonnull1 (tgt := 12) dX8_shovels_7 (by decide) ?_
    refine T_aload_n dX8_shovels_12 rfl ?_
    obtain ⟨hf_4, h⟩ := chk_some h
    refine T_getZ dX8_shovels_13 clOK_X1 fl_X8_210 (lyX1 hf_4) rfl ?_
    refine T_if_ne (tgt := 25) dX8_shovels_16 (by decide) (fun hc => ?_) (fun hc => ?_)
    · have h := it_neg hc h
      refine T_iconst dX8_shovels_25 ic_0 ?_
      refine T_istore_n (i := 3) (L' := [aR (some 0), aI x1, aR (some q_3), aI 0, aU, aU, aU]) dX8_shovels_26 rfl (Nat.le_of_ble_eq_true rfl) rfl ?_
      refine T_iconst dX8_shovels_27 ic_0 ?_
      refine T_istore (i := 4) (L' := [aR (some 0), aI x1, aR (some q_3), aI 0, aI 0, aU, aU]) dX8_shovels_28 (Nat.le_of_ble_eq_true rfl) rfl ?_
      refine T_iconst dX8_shovels_30 ic_0 ?_
      refine T_istore (i := 5) (L' := [aR (some 0), aI x1, aR (some q_3), aI 0, aI 0, aI 0, aU]) dX8_shovels_31 (Nat.le_of_ble_eq_true rfl) rfl ?_
      refine T_mask [true, false, true, true, true, true, true] rfl ?_
      exact l_X8_shovels_L33  lw tl tt M q_3 hf_4 _ _ FU 0 0 0 h ⟨rfl, rfl, rfl, rfl⟩
    · have h := it_pos hc h
      refine T_aload_n dX8_shovels_19 rfl ?_
      refine T_iconst dX8_shovels_20 ic_1 ?_
      obtain ⟨r_21, M_22, hc_23, h⟩ := bd2_some h
      refine T_cvi (as := [vI 1]) dX8_shovels_21 cw_X8_found ml_X8_100 mi_X8_found se_X8_found lyC_0 rfl (by decide) rfl (Nat.le_of_ble_eq_true rfl) (Nat.le_of_ble_eq_true rfl) (m_X8_found lw tl tt M 1  _ _ hc_23) ?_
      obtain ⟨rfl, rfl⟩ := sm2 h
      exact T_iret dX8_shovels_24 ⟨rfl, rfl, rfl, rfl⟩
def X8_suspect_L34 (M : Mem) (p2 : Nat) : Int32 × Int32 × Int32 → Option ((Int32 × Int32 × Int32) ⊕ (Int32 × Int32))
  | (x3, x4, x5) =>
    if (gI M 7 0) ≤ x5 then some (.inr (x3, x4))
    else bd1 (F_X1_depthAt M 9 x5) fun r_5 => bd1 (F_X1_depthAt M p2 x5) fun r_7 => lett (r_5 - r_7) fun x_9 => if x_9 ≤ x3 then lett (x5 + 1) fun x_11 => some (.inl (x3, x4, x_11))
    else lett (x5 + 1) fun x_13 => some (.inl (x_9, x5, x_13))
def F_X8_suspect (M : Mem) (x1 : Int32) : Option (Int32 × Mem) :=
 bd1 (F_X8_imageOf x1) fun o_1 => oc o_1 (some ((-1), M))
 (fun q_3 => chk (isX1 q_3 = true) (if (gI M q_3 7) = 0 then bd2 (F_X8_found M 1) fun r_19 M_20 => some (r_19, M_20)
 else bd2 (loop (X8_suspect_L34 M q_3) FU (0, (-9), 0)) fun x_15 x_16 => if x_16 = (-9) then some (x_16, M)
 else lett (sI M 0 12 x_15) fun M_17 => some (x_16, M_17)))
set_option maxRecDepth 100000 in
set_option maxHeartbeats 4000000 in
theorem s_X8_suspect_L34 (lw : Nat → Option Nat) (tl : Option Nat) (tt : Option Nat) (M : Mem) (p2 : Nat) (h2 : isX1 p2 = true) (x3 : Int32) (x4 : Int32) (x5 : Int32) {Po : Po_} (x : (Int32 × Int32 × Int32) ⊕ (Int32 × Int32)) (h : X8_suspect_L34 M p2 (x3, x4, x5) = some x) (hI : ∀ (ix3 : Int32) (ix4 : Int32) (ix5 : Int32), x = .inl (ix3, ix4, ix5) → T RX8 cX8_suspect 7 (some .int) 0 2 0 0 false Po 34 [aR (some 0), aU, aR (some p2), aI ix3, aI ix4, aI ix5, aU] [] LAYC (rfs lw tl tt) M 0 0) (hE0 : ∀ (e3 : Int32) (e4 : Int32), x = .inr (e3, e4) → T RX8 cX8_suspect 7 (some .int) 0 2 0 0 false Po 83 [aR (some 0), aU, aU, aI e3, aI e4, aU, aU] [] LAYC (rfs lw tl tt) M 0 0) : T RX8 cX8_suspect 7 (some .int) 0 2 0 0 false Po 34 [aR (some 0), aU, aR (some p2), aI x3, aI x4, aI x5, aU] [] LAYC (rfs lw tl tt) M 0 0 := by
  unfold X8_suspect_L34 at h
  simp only at h
  refine T_iload dX8_suspect_34 rfl ?_
  refine T_aload_n dX8_suspect_36 rfl ?_
  refine T_getR dX8_suspect_37 clOK_X8 fl_X8_28 lyC_0 rfl rfl ?_
  refine T_getI dX8_suspect_40 clOK_X2 fl_X8_164 lyC_7 rfl ?_
  refine T_icmp_ge (tgt := 83) dX8_suspect_43 (by decide) (fun hc => ?_) (fun hc => ?_)
  · have h := it_pos hc h
    obtain rfl := sm1 h
    refine T_mask [true, true, false, true, true, false, true] rfl ?_
    exact hE0 _ _ rfl
  · have h := it_neg hc h
    refine T_aload_n dX8_suspect_46 rfl ?_
    refine T_getR dX8_suspect_47 clOK_X8 fl_X8_37 lyC_0 rfl rfl ?_
    refine T_iload dX8_suspect_50 rfl ?_
    obtain ⟨r_5, hc_6, h⟩ := bd1_some h
    refine T_cvi (as := [vI x5]) dX8_suspect_52 cw_X1_depthAt ml_X8_203 mi_X1_depthAt se_X1_depthAt lyC_9 rfl (by decide) rfl (Nat.le_of_ble_eq_true rfl) (Nat.le_of_ble_eq_true rfl) (m_X1_depthAt lw tl tt M 9 x5 rfl _ hc_6) ?_
    refine T_aload_n dX8_suspect_55 rfl ?_
    refine T_iload dX8_suspect_56 rfl ?_
    obtain ⟨r_7, hc_8, h⟩ := bd1_some h
    refine T_cvi (as := [vI x5]) dX8_suspect_58 cw_X1_depthAt ml_X8_203 mi_X1_depthAt se_X1_depthAt (lyX1 h2) rfl (by decide) rfl (Nat.le_of_ble_eq_true rfl) (Nat.le_of_ble_eq_true rfl) (m_X1_depthAt lw tl tt M p2 x5 h2 _ hc_8) ?_
    refine T_isub dX8_suspect_61 ?_
    obtain ⟨x_9, ex_10, h⟩ := lett_some h
    refine T_topI ex_10 ?_
    refine T_istore (i := 6) (L' := [aR (some 0), aU, aR (some p2), aI x3, aI x4, aI x5, aI x_9]) dX8_suspect_62 (Nat.le_of_ble_eq_true rfl) rfl ?_
    refine T_iload dX8_suspect_64 rfl ?_
    refine T_iload_n dX8_suspect_66 rfl ?_
    refine T_icmp_le (tgt := 77) dX8_suspect_67 (by decide) (fun hc => ?_) (fun hc => ?_)
    · have h := it_pos hc h
      obtain ⟨x_11, ex_12, h⟩ := lett_some h
      refine T_iinc (L' := [aR (some 0), aU, aR (some p2), aI x3, aI x4, aI x_11, aI x_9]) dX8_suspect_77 rfl (ic_inc ic_1 ex_12) (Nat.le_of_ble_eq_true rfl) rfl ?_
      refine T_goto (tgt := 34) dX8_suspect_80 (by decide) ?_
      obtain rfl := sm1 h
      refine T_mask [true, true, true, true, true, true, false] rfl ?_
      exact hI _ _ _ rfl
    · have h := it_neg hc h
      refine T_iload dX8_suspect_70 rfl ?_
      refine T_istore_n (i := 3) (L' := [aR (some 0), aU, aR (some p2), aI x_9, aI x4, aI x5, aI x_9]) dX8_suspect_72 rfl (Nat.le_of_ble_eq_true rfl) rfl ?_
      refine T_iload dX8_suspect_73 rfl ?_
      refine T_istore (i := 4) (L' := [aR (some 0), aU, aR (some p2), aI x_9, aI x5, aI x5, aI x_9]) dX8_suspect_75 (Nat.le_of_ble_eq_true rfl) rfl ?_
      obtain ⟨x_13, ex_14, h⟩ := lett_some h
      refine T_iinc (L' := [aR (some 0), aU, aR (some p2), aI x_9, aI x5, aI x_13, aI x_9]) dX8_suspect_77 rfl (ic_inc ic_1 ex_14) (Nat.le_of_ble_eq_true rfl) rfl ?_
      refine T_goto (tgt := 34) dX8_suspect_80 (by decide) ?_
      obtain rfl := sm1 h
      refine T_mask [true, true, true, true, true, true, false] rfl ?_
      exact hI _ _ _ rfl
set_option maxRecDepth 100000 in
set_option maxHeartbeats 4000000 in
theorem l_X8_suspect_L34 (lw : Nat → Option Nat) (tl : Option Nat) (tt : Option Nat) (M : Mem) (p2 : Nat) (h2 : isX1 p2 = true) {Po : Po_} (e3 : Int32) (e4 : Int32) : ∀ (k : Nat) (x3 : Int32) (x4 : Int32) (x5 : Int32), loop (X8_suspect_L34 M p2) k (x3, x4, x5) = some (e3, e4) → (T RX8 cX8_suspect 7 (some .int) 0 2 0 0 false Po 83 [aR (some 0), aU, aU, aI e3, aI e4, aU, aU] [] LAYC (rfs lw tl tt) M 0 0) → T RX8 cX8_suspect 7 (some .int) 0 2 0 0 false Po 34 [aR (some 0), aU, aR (some p2), aI x3, aI x4, aI x5, aU] [] LAYC (rfs lw tl tt) M 0 0 := by
  intro k
  induction k with
  | zero => intro x3 x4 x5 h; cases h
  | succ k ih =>
    intro x3 x4 x5 h hE
    obtain ⟨x, hx, hx1, hx2⟩ := loop_succ h
    exact s_X8_suspect_L34  lw tl tt M p2 h2 x3 x4 x5 x hx (fun q0 q1 q2 e => ih q0 q1 q2 (hx1 _ e) hE) (fun q0 q1 e => by cases hx2 _ e; exact hE)
set_option maxRecDepth 100000 in
set_option maxHeartbeats 4000000 in
theorem m_X8_suspect (lw : Nat → Option Nat) (tl : Option Nat) (tt : Option Nat) (M : Mem) (x1 : Int32) (r : Int32) (M' : Mem) (h : F_X8_suspect M x1 = some (r, M')) : Cal yX8_suspect cX8_suspect 7 (some .int) 0 2 0 0 false [vR (some 0), vI x1] LAYC (rfs lw tl tt) M (eqp (vI r) LAYC (rfs lw tl tt) M') := by
  refine Cal.of (by decide +kernel) (Nat.le_of_ble_eq_true rfl) (fun h => by cases h) ?_
  unfold F_X8_suspect at h
  show T RX8 cX8_suspect 7 (some .int) 0 2 0 0 false (eqp (vI r) LAYC (rfs lw tl tt) M') 0 [aR (some 0), aI x1, aU, aU, aU, aU, aU] [] LAYC (rfs lw tl tt) M 0 0
  refine T_aload_n dX8_suspect_0 rfl ?_
  refine T_iload_n dX8_suspect_1 rfl ?_
  obtain ⟨o_1, hc_2, h⟩ := bd1_some h
  refine T_cvq (as := [vI x1]) dX8_suspect_2 cw_X8_imageOf ml_X8_225 mi_X8_imageOf se_X8_imageOf lyC_0 rfl (by decide) rfl (Nat.le_of_ble_eq_true rfl) (Nat.le_of_ble_eq_true rfl) (m_X8_imageOf lw tl tt M x1  _ hc_2) ?_
  refine T_astore_n (i := 2) (L' := [aR (some 0), aI x1, aR o_1, aU, aU, aU, aU]) dX8_suspect_5 rfl (Nat.le_of_ble_eq_true rfl) rfl ?_
  refine T_aload_n dX8_suspect_6 rfl ?_
  cases o_1 with
  | none =>
    have h := oc_none h
    refine T_ifnonnull0 dX8_suspect_7 ?_
    refine T_iconst dX8_suspect_10 ic_m1 ?_
    obtain ⟨rfl, rfl⟩ := sm2 h
    exact T_iret dX8_suspect_11 ⟨rfl, rfl, rfl, rfl⟩
  | some q_3 =>
    have h := oc_some h
    refine T_ifnonnull1 (tgt := 12) dX8_suspect_7 (by decide) ?_
    refine T_aload_n dX8_suspect_12 rfl ?_
    obtain ⟨hf_4, h⟩ := chk_some h
    refine T_getZ dX8_suspect_13 clOK_X1 fl_X8_210 (lyX1 hf_4) rfl ?_
    refine T_if_ne (tgt := 25) dX8_suspect_16 (by decide) (fun hc => ?_) (fun hc => ?_)
    · have h := it_neg hc h
      refine T_iconst dX8_suspect_25 ic_0 ?_
      refine T_istore_n (i := 3) (L' := [aR (some 0), aI x1, aR (some q_3), aI 0, aU, aU, aU]) dX8_suspect_26 rfl (Nat.le_of_ble_eq_true rfl) rfl ?_
      refine T_bipush dX8_suspect_27 bp_m9 ?_
      refine T_istore (i := 4) (L' := [aR (some 0), aI x1, aR (some q_3), aI 0, aI (-9), aU, aU]) dX8_suspect_29 (Nat.le_of_ble_eq_true rfl) rfl ?_
      refine T_iconst dX8_suspect_31 ic_0 ?_
      refine T_istore (i := 5) (L' := [aR (some 0), aI x1, aR (some q_3), aI 0, aI (-9), aI 0, aU]) dX8_suspect_32 (Nat.le_of_ble_eq_true rfl) rfl ?_
      obtain ⟨x_15, x_16, hl, h⟩ := bd2_some h
      refine T_mask [true, false, true, true, true, true, true] rfl ?_
      refine l_X8_suspect_L34  lw tl tt M q_3 hf_4 _ _ FU 0 (-9) 0 hl ?_
      refine T_iload dX8_suspect_83 rfl ?_
      refine T_bipush dX8_suspect_85 bp_m9 ?_
      refine T_icmp_eq (tgt := 95) dX8_suspect_87 (by decide) (fun hc => ?_) (fun hc => ?_)
      · have h := it_pos hc h
        refine T_iload dX8_suspect_95 rfl ?_
        obtain ⟨rfl, rfl⟩ := sm2 h
        exact T_iret dX8_suspect_97 ⟨rfl, rfl, rfl, rfl⟩
      · have h := it_neg hc h
        refine T_aload_n dX8_suspect_90 rfl ?_
        refine T_iload_n dX8_suspect_91 rfl ?_
        obtain ⟨M_17, eM_18, h⟩ := lett_some h
        refine T_putI dX8_suspect_92 clOK_X8 fl_X8_107 (Or.inl rfl) lyC_0 rfl rfl eM_18 ?_
        refine T_iload dX8_suspect_95 rfl ?_
        obtain ⟨rfl, rfl⟩ := sm2 h
        exact T_iret dX8_suspect_97 ⟨rfl, rfl, rfl, rfl⟩
    · have h := it_pos hc h
      refine T_aload_n dX8_suspect_19 rfl ?_
      refine T_iconst dX8_suspect_20 ic_1 ?_
      obtain ⟨r_19, M_20, hc_21, h⟩ := bd2_some h
      refine T_cvi (as := [vI 1]) dX8_suspect_21 cw_X8_found ml_X8_100 mi_X8_found se_X8_found lyC_0 rfl (by decide) rfl (Nat.le_of_ble_eq_true rfl) (Nat.le_of_ble_eq_true rfl) (m_X8_found lw tl tt M 1  _ _ hc_21) ?_
      obtain ⟨rfl, rfl⟩ := sm2 h
      exact T_iret dX8_suspect_24 ⟨rfl, rfl, rfl, rfl⟩
def X8_carry_J163 (M : Mem) (x4 : Int32) (x5 : Int32) (x6 : Int32) (x8 : Int32) (x9 : Int32) (s0 : Int32) : Option ((Int32 × Int32) ⊕ (Int32)) :=
 bd1 (F_X1_depthAt M 9 x9) fun r_15 => bd1 (F_J9_abs_0f7a4 (s0 - r_15)) fun r_17 => lett (x8 + r_17) fun x_19 => lett (x9 + 1) fun x_21 => some (.inl (x_19, x_21))
def X8_carry_L112 (M : Mem) (x4 : Int32) (x5 : Int32) (x6 : Int32) : Int32 × Int32 → Option ((Int32 × Int32) ⊕ (Int32))
  | (x8, x9) =>
    if (gI M 7 0) ≤ x9 then some (.inr x8)
    else if ((ius (x4 ||| x6) x9) &&& 1) = 0 then lett (x9 + 1) fun x_13 => some (.inl (x8, x_13))
    else if ((ius x6 x9) &&& 1) = 0 then X8_carry_J163 M x4 x5 x6 x8 x9 0
    else bd1 (F_X1_depthAt M 9 (x9 - x5)) fun r_23 => X8_carry_J163 M x4 x5 x6 x8 x9 r_23
def X8_carry_J72 (M : Mem) (x4 : Int32) (x5 : Int32) (s0 : Int32) : Option (Int32) :=
 lett ((gI M 9 4) &&& (x4 ^^^ (-1))) fun x_9 => bd1 (F_X2_spread M s0) fun r_11 => if (r_11 &&& x_9) = 0 then loop (X8_carry_L112 M x4 x5 s0) FU (0, 0)
 else some (-9)
def F_X8_carry (M : Mem) (x1 : Int32) (x2 : Int32) (x3 : Int32) : Option (Int32) :=
 bd1 (F_X1_has M 9 x1) fun r_1 => if r_1 = 0 then some (-1)
 else bd1 (F_X1_bitsOf M 9 x1) fun r_3 => bd1 (F_X2_canPush M r_3 x2 x3) fun r_5 => if r_5 = 0 then some (-9)
 else lett ((x3 * (gI M 7 1)) + x2) fun x_7 => if x_7 < 0 then X8_carry_J72 M r_3 x_7 (ius r_3 (-x_7))
 else X8_carry_J72 M r_3 x_7 (ish r_3 x_7)
set_option maxRecDepth 100000 in
set_option maxHeartbeats 4000000 in
theorem j_X8_carry_J163 (lw : Nat → Option Nat) (tl : Option Nat) (tt : Option Nat) (M : Mem) (x4 : Int32) (x5 : Int32) (x6 : Int32) (x8 : Int32) (x9 : Int32) (s0 : Int32) {Po : Po_} (x : (Int32 × Int32) ⊕ (Int32)) (h : X8_carry_J163 M x4 x5 x6 x8 x9 s0 = some x) (hI : ∀ (ix8 : Int32) (ix9 : Int32), x = .inl (ix8, ix9) → T RX8 cX8_carry 11 (some .int) 0 3 0 0 false Po 112 [aR (some 0), aU, aU, aU, aI x4, aI x5, aI x6, aU, aI ix8, aI ix9, aU] [] LAYC (rfs lw tl tt) M 0 0) (hE0 : ∀ (er : Int32), x = .inr er → Po (vI er) LAYC (rfs lw tl tt) M) : T RX8 cX8_carry 11 (some .int) 0 3 0 0 false Po 163 [aR (some 0), aU, aU, aU, aI x4, aI x5, aI x6, aU, aI x8, aI x9, aU] [vI s0] LAYC (rfs lw tl tt) M 0 0 := by
  unfold X8_carry_J163 at h
  refine T_istore (i := 10) (L' := [aR (some 0), aU, aU, aU, aI x4, aI x5, aI x6, aU, aI x8, aI x9, aI s0]) dX8_carry_163 (Nat.le_of_ble_eq_true rfl) rfl ?_
  refine T_iload dX8_carry_165 rfl ?_
  refine T_iload dX8_carry_167 rfl ?_
  refine T_aload_n dX8_carry_169 rfl ?_
  refine T_getR dX8_carry_170 clOK_X8 fl_X8_37 lyC_0 rfl rfl ?_
  refine T_iload dX8_carry_173 rfl ?_
  obtain ⟨r_15, hc_16, h⟩ := bd1_some h
  refine T_cvi (as := [vI x9]) dX8_carry_175 cw_X1_depthAt ml_X8_203 mi_X1_depthAt se_X1_depthAt lyC_9 rfl (by decide) rfl (Nat.le_of_ble_eq_true rfl) (Nat.le_of_ble_eq_true rfl) (m_X1_depthAt lw tl tt M 9 x9 rfl _ hc_16) ?_
  refine T_isub dX8_carry_178 ?_
  obtain ⟨r_17, hc_18, h⟩ := bd1_some h
  refine T_csi (as := [vI (s0 - r_15)]) dX8_carry_179 cw_J9_abs_0f7a4 ml_X8_253 mt_J9_abs_0f7a4 rfl (Nat.le_of_ble_eq_true rfl) (Nat.le_of_ble_eq_true rfl) (m_J9_abs_0f7a4 LAYC (rfs lw tl tt) M (s0 - r_15)  _ hc_18) ?_
  refine T_iadd dX8_carry_182 ?_
  obtain ⟨x_19, ex_20, h⟩ := lett_some h
  refine T_topI ex_20 ?_
  refine T_istore (i := 8) (L' := [aR (some 0), aU, aU, aU, aI x4, aI x5, aI x6, aU, aI x_19, aI x9, aI s0]) dX8_carry_183 (Nat.le_of_ble_eq_true rfl) rfl ?_
  obtain ⟨x_21, ex_22, h⟩ := lett_some h
  refine T_iinc (L' := [aR (some 0), aU, aU, aU, aI x4, aI x5, aI x6, aU, aI x_19, aI x_21, aI s0]) dX8_carry_185 rfl (ic_inc ic_1 ex_22) (Nat.le_of_ble_eq_true rfl) rfl ?_
  refine T_goto (tgt := 112) dX8_carry_188 (by decide) ?_
  obtain rfl := sm1 h
  refine T_mask [true, true, true, true, true, true, true, true, true, true, false] rfl ?_
  exact hI _ _ rfl
set_option maxRecDepth 100000 in
set_option maxHeartbeats 4000000 in
theorem s_X8_carry_L112 (lw : Nat → Option Nat) (tl : Option Nat) (tt : Option Nat) (M : Mem) (x4 : Int32) (x5 : Int32) (x6 : Int32) (x8 : Int32) (x9 : Int32) {Po : Po_} (x : (Int32 × Int32) ⊕ (Int32)) (h : X8_carry_L112 M x4 x5 x6 (x8, x9) = some x) (hI : ∀ (ix8 : Int32) (ix9 : Int32), x = .inl (ix8, ix9) → T RX8 cX8_carry 11 (some .int) 0 3 0 0 false Po 112 [aR (some 0), aU, aU, aU, aI x4, aI x5, aI x6, aU, aI ix8, aI ix9, aU] [] LAYC (rfs lw tl tt) M 0 0) (hE0 : ∀ (er : Int32), x = .inr er → Po (vI er) LAYC (rfs lw tl tt) M) : T RX8 cX8_carry 11 (some .int) 0 3 0 0 false Po 112 [aR (some 0), aU, aU, aU, aI x4, aI x5, aI x6, aU, aI x8, aI x9, aU] [] LAYC (rfs lw tl tt) M 0 0 := by
  unfold X8_carry_L112 at h
  simp only at h
  refine T_iload dX8_carry_112 rfl ?_
  refine T_aload_n dX8_carry_114 rfl ?_
  refine T_getR dX8_carry_115 clOK_X8 fl_X8_28 lyC_0 rfl rfl ?_
  refine T_getI dX8_carry_118 clOK_X2 fl_X8_164 lyC_7 rfl ?_
  refine T_icmp_ge (tgt := 191) dX8_carry_121 (by decide) (fun hc => ?_) (fun hc => ?_)
  · have h := it_pos hc h
    refine T_iload dX8_carry_191 rfl ?_
    obtain rfl := sm1 h
    exact T_iret dX8_carry_193 (hE0 _ rfl)
  · have h := it_neg hc h
    refine T_iload dX8_carry_124 rfl ?_
    refine T_iload dX8_carry_126 rfl ?_
    refine T_ior dX8_carry_128 ?_
    refine T_iload dX8_carry_129 rfl ?_
    refine T_iushr dX8_carry_131 ?_
    refine T_iconst dX8_carry_132 ic_1 ?_
    refine T_iand dX8_carry_133 ?_
    refine T_if_eq (tgt := 185) dX8_carry_134 (by decide) (fun hc => ?_) (fun hc => ?_)
    · have h := it_pos hc h
      obtain ⟨x_13, ex_14, h⟩ := lett_some h
      refine T_iinc (L' := [aR (some 0), aU, aU, aU, aI x4, aI x5, aI x6, aU, aI x8, aI x_13, aU]) dX8_carry_185 rfl (ic_inc ic_1 ex_14) (Nat.le_of_ble_eq_true rfl) rfl ?_
      refine T_goto (tgt := 112) dX8_carry_188 (by decide) ?_
      obtain rfl := sm1 h
      exact hI _ _ rfl
    · have h := it_neg hc h
      refine T_iload dX8_carry_137 rfl ?_
      refine T_iload dX8_carry_139 rfl ?_
      refine T_iushr dX8_carry_141 ?_
      refine T_iconst dX8_carry_142 ic_1 ?_
      refine T_iand dX8_carry_143 ?_
      refine T_if_eq (tgt := 162) dX8_carry_144 (by decide) (fun hc => ?_) (fun hc => ?_)
      · have h := it_pos hc h
        refine T_iconst dX8_carry_162 ic_0 ?_
        exact j_X8_carry_J163  lw tl tt M x4 x5 x6 x8 x9 0  _ h hI hE0
      · have h := it_neg hc h
        refine T_aload_n dX8_carry_147 rfl ?_
        refine T_getR dX8_carry_148 clOK_X8 fl_X8_37 lyC_0 rfl rfl ?_
        refine T_iload dX8_carry_151 rfl ?_
        refine T_iload dX8_carry_153 rfl ?_
        refine T_isub dX8_carry_155 ?_
        obtain ⟨r_23, hc_24, h⟩ := bd1_some h
        refine T_cvi (as := [vI (x9 - x5)]) dX8_carry_156 cw_X1_depthAt ml_X8_203 mi_X1_depthAt se_X1_depthAt lyC_9 rfl (by decide) rfl (Nat.le_of_ble_eq_true rfl) (Nat.le_of_ble_eq_true rfl) (m_X1_depthAt lw tl tt M 9 (x9 - x5) rfl _ hc_24) ?_
        refine T_goto (tgt := 163) dX8_carry_159 (by decide) ?_
        exact j_X8_carry_J163  lw tl tt M x4 x5 x6 x8 x9 r_23  _ h hI hE0
set_option maxRecDepth 100000 in
set_option maxHeartbeats 4000000 in
theorem l_X8_carry_L112 (lw : Nat → Option Nat) (tl : Option Nat) (tt : Option Nat) (M : Mem) (x4 : Int32) (x5 : Int32) (x6 : Int32) {Po : Po_} (er : Int32) : ∀ (k : Nat) (x8 : Int32) (x9 : Int32), loop (X8_carry_L112 M x4 x5 x6) k (x8, x9) = some er → (Po (vI er) LAYC (rfs lw tl tt) M) → T RX8 cX8_carry 11 (some .int) 0 3 0 0 false Po 112 [aR (some 0), aU, aU, aU, aI x4, aI x5, aI x6, aU, aI x8, aI x9, aU] [] LAYC (rfs lw tl tt) M 0 0 := by
  intro k
  induction k with
  | zero => intro x8 x9 h; cases h
  | succ k ih =>
    intro x8 x9 h hE
    obtain ⟨x, hx, hx1, hx2⟩ := loop_succ h
    exact s_X8_carry_L112  lw tl tt M x4 x5 x6  x8 x9 x hx (fun q0 q1 e => ih q0 q1 (hx1 _ e) hE) (fun q0 e => by cases hx2 _ e; exact hE)
set_option maxRecDepth 100000 in
set_option maxHeartbeats 4000000 in
theorem j_X8_carry_J72 (lw : Nat → Option Nat) (tl : Option Nat) (tt : Option Nat) (M : Mem) (x4 : Int32) (x5 : Int32) (s0 : Int32) (r : Int32) (h : X8_carry_J72 M x4 x5 s0 = some r) : T RX8 cX8_carry 11 (some .int) 0 3 0 0 false (eqp (vI r) LAYC (rfs lw tl tt) M) 72 [aR (some 0), aU, aU, aU, aI x4, aI x5, aU, aU, aU, aU, aU] [vI s0] LAYC (rfs lw tl tt) M 0 0 := by
  unfold X8_carry_J72 at h
  refine T_istore (i := 6) (L' := [aR (some 0), aU, aU, aU, aI x4, aI x5, aI s0, aU, aU, aU, aU]) dX8_carry_72 (Nat.le_of_ble_eq_true rfl) rfl ?_
  refine T_aload_n dX8_carry_74 rfl ?_
  refine T_getR dX8_carry_75 clOK_X8 fl_X8_37 lyC_0 rfl rfl ?_
  refine T_getI dX8_carry_78 clOK_X1 fl_X8_268 lyC_9 rfl ?_
  refine T_iload dX8_carry_81 rfl ?_
  refine T_iconst dX8_carry_83 ic_m1 ?_
  refine T_ixor dX8_carry_84 ?_
  refine T_iand dX8_carry_85 ?_
  obtain ⟨x_9, ex_10, h⟩ := lett_some h
  refine T_topI ex_10 ?_
  refine T_istore (i := 7) (L' := [aR (some 0), aU, aU, aU, aI x4, aI x5, aI s0, aI x_9, aU, aU, aU]) dX8_carry_86 (Nat.le_of_ble_eq_true rfl) rfl ?_
  refine T_aload_n dX8_carry_88 rfl ?_
  refine T_getR dX8_carry_89 clOK_X8 fl_X8_28 lyC_0 rfl rfl ?_
  refine T_iload dX8_carry_92 rfl ?_
  obtain ⟨r_11, hc_12, h⟩ := bd1_some h
  refine T_cvi (as := [vI s0]) dX8_carry_94 cw_X2_spread ml_X8_271 mi_X2_spread se_X2_spread lyC_7 rfl (by decide) rfl (Nat.le_of_ble_eq_true rfl) (Nat.le_of_ble_eq_true rfl) (m_X2_spread lw tl tt M s0  _ hc_12) ?_
  refine T_iload dX8_carry_97 rfl ?_
  refine T_iand dX8_carry_99 ?_
  refine T_if_eq (tgt := 106) dX8_carry_100 (by decide) (fun hc => ?_) (fun hc => ?_)
  · have h := it_pos hc h
    refine T_iconst dX8_carry_106 ic_0 ?_
    refine T_istore (i := 8) (L' := [aR (some 0), aU, aU, aU, aI x4, aI x5, aI s0, aI x_9, aI 0, aU, aU]) dX8_carry_107 (Nat.le_of_ble_eq_true rfl) rfl ?_
    refine T_iconst dX8_carry_109 ic_0 ?_
    refine T_istore (i := 9) (L' := [aR (some 0), aU, aU, aU, aI x4, aI x5, aI s0, aI x_9, aI 0, aI 0, aU]) dX8_carry_110 (Nat.le_of_ble_eq_true rfl) rfl ?_
    refine T_mask [true, true, true, true, true, true, true, false, true, true, true] rfl ?_
    exact l_X8_carry_L112  lw tl tt M x4 x5 s0  _ FU 0 0 h ⟨rfl, rfl, rfl, rfl⟩
  · have h := it_neg hc h
    refine T_bipush dX8_carry_103 bp_m9 ?_
    obtain rfl := sm1 h
    exact T_iret dX8_carry_105 ⟨rfl, rfl, rfl, rfl⟩
set_option maxRecDepth 100000 in
set_option maxHeartbeats 4000000 in
theorem m_X8_carry (lw : Nat → Option Nat) (tl : Option Nat) (tt : Option Nat) (M : Mem) (x1 : Int32) (x2 : Int32) (x3 : Int32) (r : Int32) (h : F_X8_carry M x1 x2 x3 = some r) : Cal yX8_carry cX8_carry 11 (some .int) 0 3 0 0 false [vR (some 0), vI x1, vI x2, vI x3] LAYC (rfs lw tl tt) M (eqp (vI r) LAYC (rfs lw tl tt) M) := by
  refine Cal.of (by decide +kernel) (Nat.le_of_ble_eq_true rfl) (fun h => by cases h) ?_
  unfold F_X8_carry at h
  show T RX8 cX8_carry 11 (some .int) 0 3 0 0 false (eqp (vI r) LAYC (rfs lw tl tt) M) 0 [aR (some 0), aI x1, aI x2, aI x3, aU, aU, aU, aU, aU, aU, aU] [] LAYC (rfs lw tl tt) M 0 0
  refine T_aload_n dX8_carry_0 rfl ?_
  refine T_getR dX8_carry_1 clOK_X8 fl_X8_37 lyC_0 rfl rfl ?_
  refine T_iload_n dX8_carry_4 rfl ?_
  obtain ⟨r_1, hc_2, h⟩ := bd1_some h
  refine T_cvi (as := [vI x1]) dX8_carry_5 cw_X1_has ml_X8_189 mi_X1_has se_X1_has lyC_9 rfl (by decide) rfl (Nat.le_of_ble_eq_true rfl) (Nat.le_of_ble_eq_true rfl) (m_X1_has lw tl tt M 9 x1 rfl _ hc_2) ?_
  refine T_if_ne (tgt := 13) dX8_carry_8 (by decide) (fun hc => ?_) (fun hc => ?_)
  · have h := it_neg hc h
    refine T_aload_n dX8_carry_13 rfl ?_
    refine T_getR dX8_carry_14 clOK_X8 fl_X8_37 lyC_0 rfl rfl ?_
    refine T_iload_n dX8_carry_17 rfl ?_
    obtain ⟨r_3, hc_4, h⟩ := bd1_some h
    refine T_cvi (as := [vI x1]) dX8_carry_18 cw_X1_bitsOf ml_X8_258 mi_X1_bitsOf se_X1_bitsOf lyC_9 rfl (by decide) rfl (Nat.le_of_ble_eq_true rfl) (Nat.le_of_ble_eq_true rfl) (m_X1_bitsOf lw tl tt M 9 x1 rfl _ hc_4) ?_
    refine T_istore (i := 4) (L' := [aR (some 0), aI x1, aI x2, aI x3, aI r_3, aU, aU, aU, aU, aU, aU]) dX8_carry_21 (Nat.le_of_ble_eq_true rfl) rfl ?_
    refine T_aload_n dX8_carry_23 rfl ?_
    refine T_getR dX8_carry_24 clOK_X8 fl_X8_28 lyC_0 rfl rfl ?_
    refine T_iload dX8_carry_27 rfl ?_
    refine T_iload_n dX8_carry_29 rfl ?_
    refine T_iload_n dX8_carry_30 rfl ?_
    obtain ⟨r_5, hc_6, h⟩ := bd1_some h
    refine T_cvi (as := [vI r_3, vI x2, vI x3]) dX8_carry_31 cw_X2_canPush ml_X8_261 mi_X2_canPush se_X2_canPush lyC_7 rfl (by decide) rfl (Nat.le_of_ble_eq_true rfl) (Nat.le_of_ble_eq_true rfl) (m_X2_canPush lw tl tt M r_3 x2 x3  _ hc_6) ?_
    refine T_if_ne (tgt := 40) dX8_carry_34 (by decide) (fun hc => ?_) (fun hc => ?_)
    · have h := it_neg hc h
      refine T_iload_n dX8_carry_40 rfl ?_
      refine T_aload_n dX8_carry_41 rfl ?_
      refine T_getR dX8_carry_42 clOK_X8 fl_X8_28 lyC_0 rfl rfl ?_
      refine T_getI dX8_carry_45 clOK_X2 fl_X8_265 lyC_7 rfl ?_
      refine T_imul dX8_carry_48 ?_
      refine T_iload_n dX8_carry_49 rfl ?_
      refine T_iadd dX8_carry_50 ?_
      obtain ⟨x_7, ex_8, h⟩ := lett_some h
      refine T_topI ex_8 ?_
      refine T_istore (i := 5) (L' := [aR (some 0), aI x1, aI x2, aI x3, aI r_3, aI x_7, aU, aU, aU, aU, aU]) dX8_carry_51 (Nat.le_of_ble_eq_true rfl) rfl ?_
      refine T_iload dX8_carry_53 rfl ?_
      refine T_if_lt (tgt := 66) dX8_carry_55 (by decide) (fun hc => ?_) (fun hc => ?_)
      · have h := it_pos hc h
        refine T_iload dX8_carry_66 rfl ?_
        refine T_iload dX8_carry_68 rfl ?_
        refine T_ineg dX8_carry_70 ?_
        refine T_iushr dX8_carry_71 ?_
        refine T_mask [true, false, false, false, true, true, true, true, true, true, true] rfl ?_
        exact j_X8_carry_J72  lw tl tt M r_3 x_7 (ius r_3 (-x_7))  _ h
      · have h := it_neg hc h
        refine T_iload dX8_carry_58 rfl ?_
        refine T_iload dX8_carry_60 rfl ?_
        refine T_ishl dX8_carry_62 ?_
        refine T_goto (tgt := 72) dX8_carry_63 (by decide) ?_
        refine T_mask [true, false, false, false, true, true, true, true, true, true, true] rfl ?_
        exact j_X8_carry_J72  lw tl tt M r_3 x_7 (ish r_3 x_7)  _ h
    · have h := it_pos hc h
      refine T_bipush dX8_carry_37 bp_m9 ?_
      obtain rfl := sm1 h
      exact T_iret dX8_carry_39 ⟨rfl, rfl, rfl, rfl⟩
  · have h := it_pos hc h
    refine T_iconst dX8_carry_11 ic_m1 ?_
    obtain rfl := sm1 h
    exact T_iret dX8_carry_12 ⟨rfl, rfl, rfl, rfl⟩
def F_X8_nextSet (x0 : Int32) : Option (Int32) :=
 lett (x0 &&& (-x0)) fun x_1 => lett (x0 + x_1) fun x_3 => bd1 (F_J6_bitCount_0f7a4 (x_1 - 1)) fun r_5 => some (x_3 ||| (ius (ius (x_3 ^^^ x0) (nI 2)) r_5))
set_option maxRecDepth 100000 in
set_option maxHeartbeats 4000000 in
theorem m_X8_nextSet (lw : Nat → Option Nat) (tl : Option Nat) (tt : Option Nat) (M : Mem) (x0 : Int32) (r : Int32) (h : F_X8_nextSet x0 = some r) : Cal yX8_nextSet cX8_nextSet 4 (some .int) 0 2 0 0 false [vI x0] LAYC (rfs lw tl tt) M (eqp (vI r) LAYC (rfs lw tl tt) M) := by
  refine Cal.of (by decide +kernel) (Nat.le_of_ble_eq_true rfl) (fun h => by cases h) ?_
  unfold F_X8_nextSet at h
  show T RX8 cX8_nextSet 4 (some .int) 0 2 0 0 false (eqp (vI r) LAYC (rfs lw tl tt) M) 0 [aI x0, aU, aU, aU] [] LAYC (rfs lw tl tt) M 0 0
  refine T_iload_n dX8_nextSet_0 rfl ?_
  refine T_iload_n dX8_nextSet_1 rfl ?_
  refine T_ineg dX8_nextSet_2 ?_
  refine T_iand dX8_nextSet_3 ?_
  obtain ⟨x_1, ex_2, h⟩ := lett_some h
  refine T_topI ex_2 ?_
  refine T_istore_n (i := 1) (L' := [aI x0, aI x_1, aU, aU]) dX8_nextSet_4 rfl (Nat.le_of_ble_eq_true rfl) rfl ?_
  refine T_iload_n dX8_nextSet_5 rfl ?_
  refine T_iload_n dX8_nextSet_6 rfl ?_
  refine T_iadd dX8_nextSet_7 ?_
  obtain ⟨x_3, ex_4, h⟩ := lett_some h
  refine T_topI ex_4 ?_
  refine T_istore_n (i := 2) (L' := [aI x0, aI x_1, aI x_3, aU]) dX8_nextSet_8 rfl (Nat.le_of_ble_eq_true rfl) rfl ?_
  refine T_iload_n dX8_nextSet_9 rfl ?_
  refine T_iconst dX8_nextSet_10 ic_1 ?_
  refine T_isub dX8_nextSet_11 ?_
  obtain ⟨r_5, hc_6, h⟩ := bd1_some h
  refine T_csi (as := [vI (x_1 - 1)]) dX8_nextSet_12 cw_J6_bitCount_0f7a4 ml_X8_241 mt_J6_bitCount_0f7a4 rfl (Nat.le_of_ble_eq_true rfl) (Nat.le_of_ble_eq_true rfl) (m_J6_bitCount_0f7a4 LAYC (rfs lw tl tt) M (x_1 - 1)  _ hc_6) ?_
  refine T_istore_n (i := 3) (L' := [aI x0, aI x_1, aI x_3, aI r_5]) dX8_nextSet_15 rfl (Nat.le_of_ble_eq_true rfl) rfl ?_
  refine T_iload_n dX8_nextSet_16 rfl ?_
  refine T_iload_n dX8_nextSet_17 rfl ?_
  refine T_iload_n dX8_nextSet_18 rfl ?_
  refine T_ixor dX8_nextSet_19 ?_
  refine T_iconst dX8_nextSet_20 ic_2 ?_
  refine T_iushr dX8_nextSet_21 ?_
  refine T_iload_n dX8_nextSet_22 rfl ?_
  refine T_iushr dX8_nextSet_23 ?_
  refine T_ior dX8_nextSet_24 ?_
  obtain rfl := sm1 h
  exact T_iret dX8_nextSet_25 ⟨rfl, rfl, rfl, rfl⟩
def X8_join_L68 (M : Mem) (x3 : Int32) (x4 : Int32) (x5 : Int32) : Int32 × Int32 → Option ((Int32 × Int32) ⊕ ((Unit) ⊕ (Int32 × Mem)))
  | (x6, x7) =>
    if (nI 1820) ≤ x7 then some (.inr (.inl ()))
    else if (ish 1 (gI M 7 0)) ≤ x6 then some (.inr (.inl ()))
    else bd1 (F_X2_hangingWith M x3 ((gI M 9 4) ||| x6)) fun r_11 => if (r_11 &&& x4) = 0 then bd1 (F_X8_nextSet x6) fun r_13 => lett (x7 + 1) fun x_15 => some (.inl (r_13, x_15))
    else lett (sI M 0 12 x6) fun M_17 => some (.inr (.inr (x5, M_17)))
def X8_join_L51 (M : Mem) (x3 : Int32) (x4 : Int32) : Int32 → Option ((Int32) ⊕ (Int32 × Mem))
  | x5 =>
    if (nI 4) < x5 then some (.inr ((-9), M))
    else lett ((ish 1 x5) - 1) fun x_9 => bd1 (loop (X8_join_L68 M x3 x4 x5) FU (x_9, 0)) (Sum.elim (un0 fun _ => lett (x5 + 1) fun x_20 => some (.inl x_20)) (un2 fun r_22 r_23 => some (.inr (r_22, r_23))))
def F_X8_join (M : Mem) (x1 : Int32) (x2 : Int32) : Option (Int32 × Mem) :=
 bd1 (F_X1_has M 9 x1) fun r_1 => if r_1 = 0 then some ((-1), M)
 else bd1 (F_X1_has M 9 x2) fun r_3 => if r_3 = 0 then some ((-1), M)
 else if x1 = x2 then some ((-1), M)
 else bd1 (F_X1_bitsOf M 9 x1) fun r_5 => bd1 (F_X1_bitsOf M 9 x2) fun r_7 => loop (X8_join_L51 M r_5 r_7) FU 1
set_option maxRecDepth 100000 in
set_option maxHeartbeats 4000000 in
theorem s_X8_join_L68 (lw : Nat → Option Nat) (tl : Option Nat) (tt : Option Nat) (M : Mem) (x3 : Int32) (x4 : Int32) (x5 : Int32) (x6 : Int32) (x7 : Int32) {Po : Po_} (x : (Int32 × Int32) ⊕ ((Unit) ⊕ (Int32 × Mem))) (h : X8_join_L68 M x3 x4 x5 (x6, x7) = some x) (hI : ∀ (ix6 : Int32) (ix7 : Int32), x = .inl (ix6, ix7) → T RX8 cX8_join 8 (some .int) 0 3 0 0 false Po 68 [aR (some 0), aU, aU, aI x3, aI x4, aI x5, aI ix6, aI ix7] [] LAYC (rfs lw tl tt) M 0 0) (hE0 : x = .inr (.inl ()) → T RX8 cX8_join 8 (some .int) 0 3 0 0 false Po 136 [aR (some 0), aU, aU, aI x3, aI x4, aI x5, aU, aU] [] LAYC (rfs lw tl tt) M 0 0) (hE1 : ∀ (er : Int32) (eM : Mem), x = .inr (.inr (er, eM)) → Po (vI er) LAYC (rfs lw tl tt) eM) : T RX8 cX8_join 8 (some .int) 0 3 0 0 false Po 68 [aR (some 0), aU, aU, aI x3, aI x4, aI x5, aI x6, aI x7] [] LAYC (rfs lw tl tt) M 0 0 := by
  unfold X8_join_L68 at h
  simp only at h
  refine T_iload dX8_join_68 rfl ?_
  refine T_sipush dX8_join_70 sp_1820 ?_
  refine T_icmp_ge (tgt := 136) dX8_join_73 (by decide) (fun hc => ?_) (fun hc => ?_)
  · have h := it_pos hc h
    obtain rfl := sm1 h
    refine T_mask [true, true, true, true, true, true, false, false] rfl ?_
    exact hE0  rfl
  · have h := it_neg hc h
    refine T_iload dX8_join_76 rfl ?_
    refine T_iconst dX8_join_78 ic_1 ?_
    refine T_aload_n dX8_join_79 rfl ?_
    refine T_getR dX8_join_80 clOK_X8 fl_X8_28 lyC_0 rfl rfl ?_
    refine T_getI dX8_join_83 clOK_X2 fl_X8_164 lyC_7 rfl ?_
    refine T_ishl dX8_join_86 ?_
    refine T_icmp_ge (tgt := 136) dX8_join_87 (by decide) (fun hc => ?_) (fun hc => ?_)
    · have h := it_pos hc h
      obtain rfl := sm1 h
      refine T_mask [true, true, true, true, true, true, false, false] rfl ?_
      exact hE0  rfl
    · have h := it_neg hc h
      refine T_aload_n dX8_join_90 rfl ?_
      refine T_getR dX8_join_91 clOK_X8 fl_X8_28 lyC_0 rfl rfl ?_
      refine T_iload_n dX8_join_94 rfl ?_
      refine T_aload_n dX8_join_95 rfl ?_
      refine T_getR dX8_join_96 clOK_X8 fl_X8_37 lyC_0 rfl rfl ?_
      refine T_getI dX8_join_99 clOK_X1 fl_X8_268 lyC_9 rfl ?_
      refine T_iload dX8_join_102 rfl ?_
      refine T_ior dX8_join_104 ?_
      obtain ⟨r_11, hc_12, h⟩ := bd1_some h
      refine T_cvi (as := [vI x3, vI ((gI M 9 4) ||| x6)]) dX8_join_105 cw_X2_hangingWith ml_X8_274 mi_X2_hangingWith se_X2_hangingWith lyC_7 rfl (by decide) rfl (Nat.le_of_ble_eq_true rfl) (Nat.le_of_ble_eq_true rfl) (m_X2_hangingWith lw tl tt M x3 ((gI M 9 4) ||| x6)  _ hc_12) ?_
      refine T_iload dX8_join_108 rfl ?_
      refine T_iand dX8_join_110 ?_
      refine T_if_eq (tgt := 123) dX8_join_111 (by decide) (fun hc => ?_) (fun hc => ?_)
      · have h := it_pos hc h
        refine T_iload dX8_join_123 rfl ?_
        obtain ⟨r_13, hc_14, h⟩ := bd1_some h
        refine T_csi (as := [vI x6]) dX8_join_125 cw_X8_nextSet ml_X8_277 mt_X8_nextSet rfl (Nat.le_of_ble_eq_true rfl) (Nat.le_of_ble_eq_true rfl) (m_X8_nextSet lw tl tt M x6  _ hc_14) ?_
        refine T_istore (i := 6) (L' := [aR (some 0), aU, aU, aI x3, aI x4, aI x5, aI r_13, aI x7]) dX8_join_128 (Nat.le_of_ble_eq_true rfl) rfl ?_
        obtain ⟨x_15, ex_16, h⟩ := lett_some h
        refine T_iinc (L' := [aR (some 0), aU, aU, aI x3, aI x4, aI x5, aI r_13, aI x_15]) dX8_join_130 rfl (ic_inc ic_1 ex_16) (Nat.le_of_ble_eq_true rfl) rfl ?_
        refine T_goto (tgt := 68) dX8_join_133 (by decide) ?_
        obtain rfl := sm1 h
        exact hI _ _ rfl
      · have h := it_neg hc h
        refine T_aload_n dX8_join_114 rfl ?_
        refine T_iload dX8_join_115 rfl ?_
        obtain ⟨M_17, eM_18, h⟩ := lett_some h
        refine T_putI dX8_join_117 clOK_X8 fl_X8_107 (Or.inl rfl) lyC_0 rfl rfl eM_18 ?_
        refine T_iload dX8_join_120 rfl ?_
        obtain rfl := sm1 h
        exact T_iret dX8_join_122 (hE1 _ _ rfl)
set_option maxRecDepth 100000 in
set_option maxHeartbeats 4000000 in
theorem l_X8_join_L68 (lw : Nat → Option Nat) (tl : Option Nat) (tt : Option Nat) (M : Mem) (x3 : Int32) (x4 : Int32) (x5 : Int32) {Po : Po_} (e : ((Unit) ⊕ (Int32 × Mem))) : ∀ (k : Nat) (x6 : Int32) (x7 : Int32), loop (X8_join_L68 M x3 x4 x5) k (x6, x7) = some e → (e = (.inl ()) → T RX8 cX8_join 8 (some .int) 0 3 0 0 false Po 136 [aR (some 0), aU, aU, aI x3, aI x4, aI x5, aU, aU] [] LAYC (rfs lw tl tt) M 0 0) → (∀ (er : Int32) (eM : Mem), e = (.inr (er, eM)) → Po (vI er) LAYC (rfs lw tl tt) eM) → T RX8 cX8_join 8 (some .int) 0 3 0 0 false Po 68 [aR (some 0), aU, aU, aI x3, aI x4, aI x5, aI x6, aI x7] [] LAYC (rfs lw tl tt) M 0 0 := by
  intro k
  induction k with
  | zero => intro x6 x7 h; cases h
  | succ k ih =>
    intro x6 x7 h hE0 hE1
    obtain ⟨x, hx, hx1, hx2⟩ := loop_succ h
    exact s_X8_join_L68  lw tl tt M x3 x4 x5  x6 x7 x hx (fun q0 q1 ee => ih q0 q1 (hx1 _ ee) hE0 hE1) (fun ee => hE0 (hx2 _ ee).symm) (fun q0 q1 ee => hE1 q0 q1 (hx2 _ ee).symm)
set_option maxRecDepth 100000 in
set_option maxHeartbeats 4000000 in
theorem s_X8_join_L51 (lw : Nat → Option Nat) (tl : Option Nat) (tt : Option Nat) (M : Mem) (x3 : Int32) (x4 : Int32) (x5 : Int32) {Po : Po_} (x : (Int32) ⊕ (Int32 × Mem)) (h : X8_join_L51 M x3 x4 x5 = some x) (hI : ∀ (ix5 : Int32), x = .inl ix5 → T RX8 cX8_join 8 (some .int) 0 3 0 0 false Po 51 [aR (some 0), aU, aU, aI x3, aI x4, aI ix5, aU, aU] [] LAYC (rfs lw tl tt) M 0 0) (hE0 : ∀ (er : Int32) (eM : Mem), x = .inr (er, eM) → Po (vI er) LAYC (rfs lw tl tt) eM) : T RX8 cX8_join 8 (some .int) 0 3 0 0 false Po 51 [aR (some 0), aU, aU, aI x3, aI x4, aI x5, aU, aU] [] LAYC (rfs lw tl tt) M 0 0 := by
  unfold X8_join_L51 at h
  simp only at h
  refine T_iload dX8_join_51 rfl ?_
  refine T_iconst dX8_join_53 ic_4 ?_
  refine T_icmp_gt (tgt := 142) dX8_join_54 (by decide) (fun hc => ?_) (fun hc => ?_)
  · have h := it_pos hc h
    refine T_bipush dX8_join_142 bp_m9 ?_
    obtain rfl := sm1 h
    exact T_iret dX8_join_144 (hE0 _ _ rfl)
  · have h := it_neg hc h
    refine T_iconst dX8_join_57 ic_1 ?_
    refine T_iload dX8_join_58 rfl ?_
    refine T_ishl dX8_join_60 ?_
    refine T_iconst dX8_join_61 ic_1 ?_
    refine T_isub dX8_join_62 ?_
    obtain ⟨x_9, ex_10, h⟩ := lett_some h
    refine T_topI ex_10 ?_
    refine T_istore (i := 6) (L' := [aR (some 0), aU, aU, aI x3, aI x4, aI x5, aI x_9, aU]) dX8_join_63 (Nat.le_of_ble_eq_true rfl) rfl ?_
    refine T_iconst dX8_join_65 ic_0 ?_
    refine T_istore (i := 7) (L' := [aR (some 0), aU, aU, aI x3, aI x4, aI x5, aI x_9, aI 0]) dX8_join_66 (Nat.le_of_ble_eq_true rfl) rfl ?_
    obtain ⟨e_19, hl, h⟩ := bd1_some h
    refine l_X8_join_L68  lw tl tt M x3 x4 x5  e_19 FU x_9 0 hl ?_ ?_
    · intro  ee
      subst ee
      have h := elim_l h
      have h := un0_ap h
      obtain ⟨x_20, ex_21, h⟩ := lett_some h
      refine T_iinc (L' := [aR (some 0), aU, aU, aI x3, aI x4, aI x_20, aU, aU]) dX8_join_136 rfl (ic_inc ic_1 ex_21) (Nat.le_of_ble_eq_true rfl) rfl ?_
      refine T_goto (tgt := 51) dX8_join_139 (by decide) ?_
      obtain rfl := sm1 h
      exact hI _ rfl
    · intro r_22 r_23 ee
      subst ee
      have h := elim_r h
      have h := un2_ap h
      obtain rfl := sm1 h
      exact hE0 _ _ rfl
set_option maxRecDepth 100000 in
set_option maxHeartbeats 4000000 in
theorem l_X8_join_L51 (lw : Nat → Option Nat) (tl : Option Nat) (tt : Option Nat) (M : Mem) (x3 : Int32) (x4 : Int32) {Po : Po_} (er : Int32) (eM : Mem) : ∀ (k : Nat) (x5 : Int32), loop (X8_join_L51 M x3 x4) k x5 = some (er, eM) → (Po (vI er) LAYC (rfs lw tl tt) eM) → T RX8 cX8_join 8 (some .int) 0 3 0 0 false Po 51 [aR (some 0), aU, aU, aI x3, aI x4, aI x5, aU, aU] [] LAYC (rfs lw tl tt) M 0 0 := by
  intro k
  induction k with
  | zero => intro x5 h; cases h
  | succ k ih =>
    intro x5 h hE
    obtain ⟨x, hx, hx1, hx2⟩ := loop_succ h
    exact s_X8_join_L51  lw tl tt M x3 x4  x5 x hx (fun q0 e => ih q0 (hx1 _ e) hE) (fun q0 q1 e => by cases hx2 _ e; exact hE)
set_option maxRecDepth 100000 in
set_option maxHeartbeats 4000000 in
theorem m_X8_join (lw : Nat → Option Nat) (tl : Option Nat) (tt : Option Nat) (M : Mem) (x1 : Int32) (x2 : Int32) (r : Int32) (M' : Mem) (h : F_X8_join M x1 x2 = some (r, M')) : Cal yX8_join cX8_join 8 (some .int) 0 3 0 0 false [vR (some 0), vI x1, vI x2] LAYC (rfs lw tl tt) M (eqp (vI r) LAYC (rfs lw tl tt) M') := by
  refine Cal.of (by decide +kernel) (Nat.le_of_ble_eq_true rfl) (fun h => by cases h) ?_
  unfold F_X8_join at h
  show T RX8 cX8_join 8 (some .int) 0 3 0 0 false (eqp (vI r) LAYC (rfs lw tl tt) M') 0 [aR (some 0), aI x1, aI x2, aU, aU, aU, aU, aU] [] LAYC (rfs lw tl tt) M 0 0
  refine T_aload_n dX8_join_0 rfl ?_
  refine T_getR dX8_join_1 clOK_X8 fl_X8_37 lyC_0 rfl rfl ?_
  refine T_iload_n dX8_join_4 rfl ?_
  obtain ⟨r_1, hc_2, h⟩ := bd1_some h
  refine T_cvi (as := [vI x1]) dX8_join_5 cw_X1_has ml_X8_189 mi_X1_has se_X1_has lyC_9 rfl (by decide) rfl (Nat.le_of_ble_eq_true rfl) (Nat.le_of_ble_eq_true rfl) (m_X1_has lw tl tt M 9 x1 rfl _ hc_2) ?_
  refine T_if_eq (tgt := 27) dX8_join_8 (by decide) (fun hc => ?_) (fun hc => ?_)
  · have h := it_pos hc h
    refine T_iconst dX8_join_27 ic_m1 ?_
    obtain ⟨rfl, rfl⟩ := sm2 h
    exact T_iret dX8_join_28 ⟨rfl, rfl, rfl, rfl⟩
  · have h := it_neg hc h
    refine T_aload_n dX8_join_11 rfl ?_
    refine T_getR dX8_join_12 clOK_X8 fl_X8_37 lyC_0 rfl rfl ?_
    refine T_iload_n dX8_join_15 rfl ?_
    obtain ⟨r_3, hc_4, h⟩ := bd1_some h
    refine T_cvi (as := [vI x2]) dX8_join_16 cw_X1_has ml_X8_189 mi_X1_has se_X1_has lyC_9 rfl (by decide) rfl (Nat.le_of_ble_eq_true rfl) (Nat.le_of_ble_eq_true rfl) (m_X1_has lw tl tt M 9 x2 rfl _ hc_4) ?_
    refine T_if_eq (tgt := 27) dX8_join_19 (by decide) (fun hc => ?_) (fun hc => ?_)
    · have h := it_pos hc h
      refine T_iconst dX8_join_27 ic_m1 ?_
      obtain ⟨rfl, rfl⟩ := sm2 h
      exact T_iret dX8_join_28 ⟨rfl, rfl, rfl, rfl⟩
    · have h := it_neg hc h
      refine T_iload_n dX8_join_22 rfl ?_
      refine T_iload_n dX8_join_23 rfl ?_
      refine T_icmp_ne (tgt := 29) dX8_join_24 (by decide) (fun hc => ?_) (fun hc => ?_)
      · have h := it_neg hc h
        refine T_aload_n dX8_join_29 rfl ?_
        refine T_getR dX8_join_30 clOK_X8 fl_X8_37 lyC_0 rfl rfl ?_
        refine T_iload_n dX8_join_33 rfl ?_
        obtain ⟨r_5, hc_6, h⟩ := bd1_some h
        refine T_cvi (as := [vI x1]) dX8_join_34 cw_X1_bitsOf ml_X8_258 mi_X1_bitsOf se_X1_bitsOf lyC_9 rfl (by decide) rfl (Nat.le_of_ble_eq_true rfl) (Nat.le_of_ble_eq_true rfl) (m_X1_bitsOf lw tl tt M 9 x1 rfl _ hc_6) ?_
        refine T_istore_n (i := 3) (L' := [aR (some 0), aI x1, aI x2, aI r_5, aU, aU, aU, aU]) dX8_join_37 rfl (Nat.le_of_ble_eq_true rfl) rfl ?_
        refine T_aload_n dX8_join_38 rfl ?_
        refine T_getR dX8_join_39 clOK_X8 fl_X8_37 lyC_0 rfl rfl ?_
        refine T_iload_n dX8_join_42 rfl ?_
        obtain ⟨r_7, hc_8, h⟩ := bd1_some h
        refine T_cvi (as := [vI x2]) dX8_join_43 cw_X1_bitsOf ml_X8_258 mi_X1_bitsOf se_X1_bitsOf lyC_9 rfl (by decide) rfl (Nat.le_of_ble_eq_true rfl) (Nat.le_of_ble_eq_true rfl) (m_X1_bitsOf lw tl tt M 9 x2 rfl _ hc_8) ?_
        refine T_istore (i := 4) (L' := [aR (some 0), aI x1, aI x2, aI r_5, aI r_7, aU, aU, aU]) dX8_join_46 (Nat.le_of_ble_eq_true rfl) rfl ?_
        refine T_iconst dX8_join_48 ic_1 ?_
        refine T_istore (i := 5) (L' := [aR (some 0), aI x1, aI x2, aI r_5, aI r_7, aI 1, aU, aU]) dX8_join_49 (Nat.le_of_ble_eq_true rfl) rfl ?_
        refine T_mask [true, false, false, true, true, true, true, true] rfl ?_
        exact l_X8_join_L51  lw tl tt M r_5 r_7  _ _ FU 1 h ⟨rfl, rfl, rfl, rfl⟩
      · have h := it_pos hc h
        refine T_iconst dX8_join_27 ic_m1 ?_
        obtain ⟨rfl, rfl⟩ := sm2 h
        exact T_iret dX8_join_28 ⟨rfl, rfl, rfl, rfl⟩
