def F_X8_mean (M : Mem) (x1 : Int32) : Option (Int32 × Mem) :=
 bd1 (F_X8_rowOf x1) fun o_1 => oc o_1 (some ((-1), M))
 (fun q_3 => chk (isX5 q_3 = true) (bd1 (F_X5_isMissing M q_3) fun r_5 => if r_5 = 0 then bd1 (F_X5_size M q_3) fun r_7 => if 0 < r_7 then bd1 (F_X5_sum M q_3) fun r_9 => chk (¬ r_7.toInt64 = 0) (bd2 (F_X8_tell M ((r_9 / r_7.toInt64).toInt32)) fun r_12 M_13 => some (r_12, M_13))
 else bd2 (F_X8_found M (nI 4)) fun r_15 M_16 => some (r_15, M_16)
 else bd2 (F_X8_found M 1) fun r_18 M_19 => some (r_18, M_19)))
set_option maxRecDepth 100000 in
set_option maxHeartbeats 4000000 in
theorem m_X8_mean (lw : Nat → Option Nat) (tl : Option Nat) (tt : Option Nat) (M : Mem) (x1 : Int32) (r : Int32) (M' : Mem) (h : F_X8_mean M x1 = some (r, M')) : Cal yX8_mean cX8_mean 4 (some .int) 0 2 0 0 false [vR (some 0), vI x1] LAYC (rfs lw tl tt) M (eqp (vI r) LAYC (rfs lw tl tt) M') := by
  refine Cal.of (by decide +kernel) (Nat.le_of_ble_eq_true rfl) (fun h => by cases h) ?_
  unfold F_X8_mean at h
  show T RX8 cX8_mean 4 (some .int) 0 2 0 0 false (eqp (vI r) LAYC (rfs lw tl tt) M') 0 [aR (some 0), aI x1, aU, aU] [] LAYC (rfs lw tl tt) M 0 0
  refine T_aload_n dX8_mean_0 rfl ?_
  refine T_iload_n dX8_mean_1 rfl ?_
  obtain ⟨o_1, hc_2, h⟩ := bd1_some h
  refine T_cvq (as := [vI x1]) dX8_mean_2 cw_X8_rowOf ml_X8_88 mi_X8_rowOf se_X8_rowOf lyC_0 rfl (by decide) rfl (Nat.le_of_ble_eq_true rfl) (Nat.le_of_ble_eq_true rfl) (m_X8_rowOf lw tl tt M x1  _ hc_2) ?_
  refine T_astore_n (i := 2) (L' := [aR (some 0), aI x1, aR o_1, aU]) dX8_mean_5 rfl (Nat.le_of_ble_eq_true rfl) rfl ?_
  refine T_aload_n dX8_mean_6 rfl ?_
  cases o_1 with
  | none =>
    have h := oc_none h
    refine T_ifnonnull0 dX8_mean_7 ?_
    refine T_iconst dX8_mean_10 ic_m1 ?_
    obtain ⟨rfl, rfl⟩ := sm2 h
    exact T_iret dX8_mean_11 ⟨rfl, rfl, rfl, rfl⟩
  | some q_3 =>
    have h := oc_some h
    refine T_ifnonnull1 (tgt := 12) dX8_mean_7 (by decide) ?_
    refine T_aload_n dX8_mean_12 rfl ?_
    obtain ⟨hf_4, h⟩ := chk_some h
    obtain ⟨r_5, hc_6, h⟩ := bd1_some h
    refine T_cvi (as := []) dX8_mean_13 cw_X5_isMissing ml_X8_118 mi_X5_isMissing se_X5_isMissing (lyX5 hf_4) rfl (by decide) rfl (Nat.le_of_ble_eq_true rfl) (Nat.le_of_ble_eq_true rfl) (m_X5_isMissing lw tl tt M q_3 hf_4 _ hc_6) ?_
    refine T_if_eq (tgt := 25) dX8_mean_16 (by decide) (fun hc => ?_) (fun hc => ?_)
    · have h := it_pos hc h
      refine T_aload_n dX8_mean_25 rfl ?_
      obtain ⟨r_7, hc_8, h⟩ := bd1_some h
      refine T_cvi (as := []) dX8_mean_26 cw_X5_size ml_X8_133 mi_X5_size se_X5_size (lyX5 hf_4) rfl (by decide) rfl (Nat.le_of_ble_eq_true rfl) (Nat.le_of_ble_eq_true rfl) (m_X5_size lw tl tt M q_3 hf_4 _ hc_8) ?_
      refine T_istore_n (i := 3) (L' := [aR (some 0), aI x1, aR (some q_3), aI r_7]) dX8_mean_29 rfl (Nat.le_of_ble_eq_true rfl) rfl ?_
      refine T_iload_n dX8_mean_30 rfl ?_
      refine T_if_gt (tgt := 40) dX8_mean_31 (by decide) (fun hc => ?_) (fun hc => ?_)
      · have h := it_pos hc h
        refine T_aload_n dX8_mean_40 rfl ?_
        refine T_aload_n dX8_mean_41 rfl ?_
        obtain ⟨r_9, hc_10, h⟩ := bd1_some h
        refine T_cvl (as := []) dX8_mean_42 cw_X5_sum ml_X8_137 mi_X5_sum se_X5_sum (lyX5 hf_4) rfl (by decide) rfl (Nat.le_of_ble_eq_true rfl) (Nat.le_of_ble_eq_true rfl) (m_X5_sum lw tl tt M q_3 hf_4 _ hc_10) ?_
        refine T_iload_n dX8_mean_45 rfl ?_
        refine T_i2l dX8_mean_46 ?_
        obtain ⟨hz_11, h⟩ := chk_some h
        refine T_ldiv dX8_mean_47 hz_11 ?_
        refine T_l2i dX8_mean_48 ?_
        obtain ⟨r_12, M_13, hc_14, h⟩ := bd2_some h
        refine T_cvi (as := [vI ((r_9 / r_7.toInt64).toInt32)]) dX8_mean_49 cw_X8_tell ml_X8_115 mi_X8_tell se_X8_tell lyC_0 rfl (by decide) rfl (Nat.le_of_ble_eq_true rfl) (Nat.le_of_ble_eq_true rfl) (m_X8_tell lw tl tt M ((r_9 / r_7.toInt64).toInt32)  _ _ hc_14) ?_
        obtain ⟨rfl, rfl⟩ := sm2 h
        exact T_iret dX8_mean_52 ⟨rfl, rfl, rfl, rfl⟩
      · have h := it_neg hc h
        refine T_aload_n dX8_mean_34 rfl ?_
        refine T_iconst dX8_mean_35 ic_4 ?_
        obtain ⟨r_15, M_16, hc_17, h⟩ := bd2_some h
        refine T_cvi (as := [vI (nI 4)]) dX8_mean_36 cw_X8_found ml_X8_100 mi_X8_found se_X8_found lyC_0 rfl (by decide) rfl (Nat.le_of_ble_eq_true rfl) (Nat.le_of_ble_eq_true rfl) (m_X8_found lw tl tt M (nI 4)  _ _ hc_17) ?_
        obtain ⟨rfl, rfl⟩ := sm2 h
        exact T_iret dX8_mean_39 ⟨rfl, rfl, rfl, rfl⟩
    · have h := it_neg hc h
      refine T_aload_n dX8_mean_19 rfl ?_
      refine T_iconst dX8_mean_20 ic_1 ?_
      obtain ⟨r_18, M_19, hc_20, h⟩ := bd2_some h
      refine T_cvi (as := [vI 1]) dX8_mean_21 cw_X8_found ml_X8_100 mi_X8_found se_X8_found lyC_0 rfl (by decide) rfl (Nat.le_of_ble_eq_true rfl) (Nat.le_of_ble_eq_true rfl) (m_X8_found lw tl tt M 1  _ _ hc_20) ?_
      obtain ⟨rfl, rfl⟩ := sm2 h
      exact T_iret dX8_mean_24 ⟨rfl, rfl, rfl, rfl⟩
def F_X8_textOf (x1 : Int32) : Option (Option Nat) :=
 if x1 < 0 then some none
 else if (nI 4) ≤ x1 then some none
 else chk (inb x1 4 = true) (lett (finC 2 x1.toNatClampNeg) fun o_2 => some o_2)
set_option maxRecDepth 100000 in
set_option maxHeartbeats 4000000 in
theorem m_X8_textOf (lw : Nat → Option Nat) (tl : Option Nat) (tt : Option Nat) (M : Mem) (x1 : Int32) (r : Option Nat) (h : F_X8_textOf x1 = some r) : Cal yX8_textOf cX8_textOf 2 (some (.object "HoleMoved$Strip")) 3 1 0 0 false [vR (some 0), vI x1] LAYC (rfs lw tl tt) M (eqp (vR r) LAYC (rfs lw tl tt) M) := by
  refine Cal.of (by decide +kernel) (Nat.le_of_ble_eq_true rfl) (fun h => by cases h) ?_
  unfold F_X8_textOf at h
  show T RX8 cX8_textOf 2 (some (.object "HoleMoved$Strip")) 3 1 0 0 false (eqp (vR r) LAYC (rfs lw tl tt) M) 0 [aR (some 0), aI x1] [] LAYC (rfs lw tl tt) M 0 0
  refine T_iload_n dX8_textOf_0 rfl ?_
  refine T_if_lt (tgt := 22) dX8_textOf_1 (by decide) (fun hc => ?_) (fun hc => ?_)
  · have h := it_pos hc h
    refine T_null dX8_textOf_22 ?_
    obtain rfl := sm1 h
    exact T_aret dX8_textOf_23 ⟨rfl, rfl, rfl, rfl⟩
  · have h := it_neg hc h
    refine T_iload_n dX8_textOf_4 rfl ?_
    refine T_aload_n dX8_textOf_5 rfl ?_
    refine T_getR dX8_textOf_6 clOK_X8 fl_X8_15 lyC_0 rfl rfl ?_
    refine T_alen dX8_textOf_9 lyC_2 (Or.inr (Or.inr (Or.inr (Or.inr rfl)))) rfl ?_
    refine T_icmp_ge (tgt := 22) dX8_textOf_10 (by decide) (fun hc => ?_) (fun hc => ?_)
    · have h := it_pos hc h
      refine T_null dX8_textOf_22 ?_
      obtain rfl := sm1 h
      exact T_aret dX8_textOf_23 ⟨rfl, rfl, rfl, rfl⟩
    · have h := it_neg hc h
      refine T_aload_n dX8_textOf_13 rfl ?_
      refine T_getR dX8_textOf_14 clOK_X8 fl_X8_15 lyC_0 rfl rfl ?_
      refine T_iload_n dX8_textOf_17 rfl ?_
      obtain ⟨hi_1, h⟩ := chk_some h
      obtain ⟨o_2, eo_3, h⟩ := lett_some h
      refine T_aald dX8_textOf_18 lyC_2 (Or.inr (Or.inr rfl)) (inb_in hi_1) (Eq.symm eo_3) ?_
      refine T_goto (tgt := 23) dX8_textOf_19 (by decide) ?_
      obtain rfl := sm1 h
      exact T_aret dX8_textOf_23 ⟨rfl, rfl, rfl, rfl⟩
def F_X8_text (M : Mem) (x1 : Int32) (x2 : Int32) : Option (Int32 × Mem) :=
 bd1 (F_X8_textOf x1) fun o_1 => bd2 (F_X8_comeAnew M o_1 x2 (nI 32)) fun r_3 M_4 => some (r_3, M_4)
set_option maxRecDepth 100000 in
set_option maxHeartbeats 4000000 in
theorem m_X8_text (lw : Nat → Option Nat) (tl : Option Nat) (tt : Option Nat) (M : Mem) (x1 : Int32) (x2 : Int32) (r : Int32) (M' : Mem) (h : F_X8_text M x1 x2 = some (r, M')) : Cal yX8_text cX8_text 3 (some .int) 0 4 0 0 false [vR (some 0), vI x1, vI x2] LAYC (rfs lw tl tt) M (eqp (vI r) LAYC (rfs lw tl tt) M') := by
  refine Cal.of (by decide +kernel) (Nat.le_of_ble_eq_true rfl) (fun h => by cases h) ?_
  unfold F_X8_text at h
  show T RX8 cX8_text 3 (some .int) 0 4 0 0 false (eqp (vI r) LAYC (rfs lw tl tt) M') 0 [aR (some 0), aI x1, aI x2] [] LAYC (rfs lw tl tt) M 0 0
  refine T_aload_n dX8_text_0 rfl ?_
  refine T_aload_n dX8_text_1 rfl ?_
  refine T_iload_n dX8_text_2 rfl ?_
  obtain ⟨o_1, hc_2, h⟩ := bd1_some h
  refine T_cvq (as := [vI x1]) dX8_text_3 cw_X8_textOf ml_X8_141 mi_X8_textOf se_X8_textOf lyC_0 rfl (by decide) rfl (Nat.le_of_ble_eq_true rfl) (Nat.le_of_ble_eq_true rfl) (m_X8_textOf lw tl tt M x1  _ hc_2) ?_
  refine T_iload_n dX8_text_6 rfl ?_
  refine T_bipush dX8_text_7 bp_32 ?_
  obtain ⟨r_3, M_4, hc_5, h⟩ := bd2_some h
  refine T_cvi (as := [vR o_1, vI x2, vI (nI 32)]) dX8_text_9 cw_X8_comeAnew ml_X8_92 mi_X8_comeAnew se_X8_comeAnew lyC_0 rfl (by decide) rfl (Nat.le_of_ble_eq_true rfl) (Nat.le_of_ble_eq_true rfl) (m_X8_comeAnew lw tl tt M o_1 x2 (nI 32)  _ _ hc_5) ?_
  obtain ⟨rfl, rfl⟩ := sm2 h
  exact T_iret dX8_text_12 ⟨rfl, rfl, rfl, rfl⟩
def F_X8_put (M : Mem) (x1 : Int32) (x2 : Int32) (x3 : Int32) : Option (Int32 × Mem) :=
 bd1 (F_X8_textOf x1) fun o_1 => oc o_1 (some ((-1), M))
 (fun q_3 => chk (isX5 q_3 = true) (bd1 (F_X8_wrongPlace M q_3 x2) fun r_5 => if r_5 = 0 then bd1 (F_X5_get M q_3 x2) fun r_7 => bd1 (F_X5_set M q_3 x2 x3.toInt8.toInt32) fun M_9 => some (r_7 + (nI 1000), M_9)
 else bd2 (F_X8_found M r_5) fun r_11 M_12 => some (r_11, M_12)))
set_option maxRecDepth 100000 in
set_option maxHeartbeats 4000000 in
theorem m_X8_put (lw : Nat → Option Nat) (tl : Option Nat) (tt : Option Nat) (M : Mem) (x1 : Int32) (x2 : Int32) (x3 : Int32) (r : Int32) (M' : Mem) (h : F_X8_put M x1 x2 x3 = some (r, M')) : Cal yX8_put cX8_put 7 (some .int) 0 3 0 0 false [vR (some 0), vI x1, vI x2, vI x3] LAYC (rfs lw tl tt) M (eqp (vI r) LAYC (rfs lw tl tt) M') := by
  refine Cal.of (by decide +kernel) (Nat.le_of_ble_eq_true rfl) (fun h => by cases h) ?_
  unfold F_X8_put at h
  show T RX8 cX8_put 7 (some .int) 0 3 0 0 false (eqp (vI r) LAYC (rfs lw tl tt) M') 0 [aR (some 0), aI x1, aI x2, aI x3, aU, aU, aU] [] LAYC (rfs lw tl tt) M 0 0
  refine T_aload_n dX8_put_0 rfl ?_
  refine T_iload_n dX8_put_1 rfl ?_
  obtain ⟨o_1, hc_2, h⟩ := bd1_some h
  refine T_cvq (as := [vI x1]) dX8_put_2 cw_X8_textOf ml_X8_141 mi_X8_textOf se_X8_textOf lyC_0 rfl (by decide) rfl (Nat.le_of_ble_eq_true rfl) (Nat.le_of_ble_eq_true rfl) (m_X8_textOf lw tl tt M x1  _ hc_2) ?_
  refine T_astore (i := 4) (L' := [aR (some 0), aI x1, aI x2, aI x3, aR o_1, aU, aU]) dX8_put_5 (Nat.le_of_ble_eq_true rfl) rfl ?_
  refine T_aload dX8_put_7 rfl ?_
  cases o_1 with
  | none =>
    have h := oc_none h
    refine T_ifnonnull0 dX8_put_9 ?_
    refine T_iconst dX8_put_12 ic_m1 ?_
    obtain ⟨rfl, rfl⟩ := sm2 h
    exact T_iret dX8_put_13 ⟨rfl, rfl, rfl, rfl⟩
  | some q_3 =>
    have h := oc_some h
    refine T_ifnonnull1 (tgt := 14) dX8_put_9 (by decide) ?_
    refine T_aload dX8_put_14 rfl ?_
    refine T_iload_n dX8_put_16 rfl ?_
    obtain ⟨hf_4, h⟩ := chk_some h
    obtain ⟨r_5, hc_6, h⟩ := bd1_some h
    refine T_csi (as := [vR (some q_3), vI x2]) dX8_put_17 cw_X8_wrongPlace ml_X8_96 mt_X8_wrongPlace rfl (Nat.le_of_ble_eq_true rfl) (Nat.le_of_ble_eq_true rfl) (m_X8_wrongPlace lw tl tt M q_3 x2 hf_4 _ hc_6) ?_
    refine T_istore (i := 5) (L' := [aR (some 0), aI x1, aI x2, aI x3, aR (some q_3), aI r_5, aU]) dX8_put_20 (Nat.le_of_ble_eq_true rfl) rfl ?_
    refine T_iload dX8_put_22 rfl ?_
    refine T_if_eq (tgt := 34) dX8_put_24 (by decide) (fun hc => ?_) (fun hc => ?_)
    · have h := it_pos hc h
      refine T_aload dX8_put_34 rfl ?_
      refine T_iload_n dX8_put_36 rfl ?_
      obtain ⟨r_7, hc_8, h⟩ := bd1_some h
      refine T_cvi (as := [vI x2]) dX8_put_37 cw_X5_get ml_X8_104 mi_X5_get se_X5_get (lyX5 hf_4) rfl (by decide) rfl (Nat.le_of_ble_eq_true rfl) (Nat.le_of_ble_eq_true rfl) (m_X5_get lw tl tt M q_3 x2 hf_4 _ hc_8) ?_
      refine T_istore (i := 6) (L' := [aR (some 0), aI x1, aI x2, aI x3, aR (some q_3), aI r_5, aI r_7]) dX8_put_40 (Nat.le_of_ble_eq_true rfl) rfl ?_
      refine T_aload dX8_put_42 rfl ?_
      refine T_iload_n dX8_put_44 rfl ?_
      refine T_iload_n dX8_put_45 rfl ?_
      refine T_i2b dX8_put_46 ?_
      obtain ⟨M_9, hc_10, h⟩ := bd1_some h
      refine T_cvv (as := [vI x2, vI x3.toInt8.toInt32]) dX8_put_47 cw_X5_set ml_X8_111 mi_X5_set se_X5_set (lyX5 hf_4) rfl (by decide) rfl (Nat.le_of_ble_eq_true rfl) (Nat.le_of_ble_eq_true rfl) (m_X5_set lw tl tt M q_3 x2 x3.toInt8.toInt32 hf_4 _ hc_10) ?_
      refine T_iload dX8_put_50 rfl ?_
      refine T_sipush dX8_put_52 sp_1000 ?_
      refine T_iadd dX8_put_55 ?_
      obtain ⟨rfl, rfl⟩ := sm2 h
      exact T_iret dX8_put_56 ⟨rfl, rfl, rfl, rfl⟩
    · have h := it_neg hc h
      refine T_aload_n dX8_put_27 rfl ?_
      refine T_iload dX8_put_28 rfl ?_
      obtain ⟨r_11, M_12, hc_13, h⟩ := bd2_some h
      refine T_cvi (as := [vI r_5]) dX8_put_30 cw_X8_found ml_X8_100 mi_X8_found se_X8_found lyC_0 rfl (by decide) rfl (Nat.le_of_ble_eq_true rfl) (Nat.le_of_ble_eq_true rfl) (m_X8_found lw tl tt M r_5  _ _ hc_13) ?_
      obtain ⟨rfl, rfl⟩ := sm2 h
      exact T_iret dX8_put_33 ⟨rfl, rfl, rfl, rfl⟩
def F_X8_fault (M : Mem) (x1 : Int32) : Option (Int32 × Mem) :=
 bd1 (F_X8_textOf x1) fun o_1 => oc o_1 (some ((-1), M))
 (fun q_3 => chk (isX5 q_3 = true) (bd1 (F_X5_isMissing M q_3) fun r_5 => if r_5 = 0 then bd2 (F_X4_faultOf M q_3) fun r_7 M_8 => some (r_7, M_8)
 else bd2 (F_X8_found M 1) fun r_10 M_11 => some (r_10, M_11)))
set_option maxRecDepth 100000 in
set_option maxHeartbeats 4000000 in
theorem m_X8_fault (lw : Nat → Option Nat) (tl : Option Nat) (tt : Option Nat) (M : Mem) (x1 : Int32) (r : Int32) (M' : Mem) (h : F_X8_fault M x1 = some (r, M')) : Cal yX8_fault cX8_fault 3 (some .int) 0 8 0 0 false [vR (some 0), vI x1] LAYC (rfs lw tl tt) M (eqp (vI r) LAYC (rfs lw tl tt) M') := by
  refine Cal.of (by decide +kernel) (Nat.le_of_ble_eq_true rfl) (fun h => by cases h) ?_
  unfold F_X8_fault at h
  show T RX8 cX8_fault 3 (some .int) 0 8 0 0 false (eqp (vI r) LAYC (rfs lw tl tt) M') 0 [aR (some 0), aI x1, aU] [] LAYC (rfs lw tl tt) M 0 0
  refine T_aload_n dX8_fault_0 rfl ?_
  refine T_iload_n dX8_fault_1 rfl ?_
  obtain ⟨o_1, hc_2, h⟩ := bd1_some h
  refine T_cvq (as := [vI x1]) dX8_fault_2 cw_X8_textOf ml_X8_141 mi_X8_textOf se_X8_textOf lyC_0 rfl (by decide) rfl (Nat.le_of_ble_eq_true rfl) (Nat.le_of_ble_eq_true rfl) (m_X8_textOf lw tl tt M x1  _ hc_2) ?_
  refine T_astore_n (i := 2) (L' := [aR (some 0), aI x1, aR o_1]) dX8_fault_5 rfl (Nat.le_of_ble_eq_true rfl) rfl ?_
  refine T_aload_n dX8_fault_6 rfl ?_
  cases o_1 with
  | none =>
    have h := oc_none h
    refine T_ifnonnull0 dX8_fault_7 ?_
    refine T_iconst dX8_fault_10 ic_m1 ?_
    obtain ⟨rfl, rfl⟩ := sm2 h
    exact T_iret dX8_fault_11 ⟨rfl, rfl, rfl, rfl⟩
  | some q_3 =>
    have h := oc_some h
    refine T_ifnonnull1 (tgt := 12) dX8_fault_7 (by decide) ?_
    refine T_aload_n dX8_fault_12 rfl ?_
    obtain ⟨hf_4, h⟩ := chk_some h
    obtain ⟨r_5, hc_6, h⟩ := bd1_some h
    refine T_cvi (as := []) dX8_fault_13 cw_X5_isMissing ml_X8_118 mi_X5_isMissing se_X5_isMissing (lyX5 hf_4) rfl (by decide) rfl (Nat.le_of_ble_eq_true rfl) (Nat.le_of_ble_eq_true rfl) (m_X5_isMissing lw tl tt M q_3 hf_4 _ hc_6) ?_
    refine T_if_eq (tgt := 27) dX8_fault_16 (by decide) (fun hc => ?_) (fun hc => ?_)
    · have h := it_pos hc h
      refine T_aload_n dX8_fault_27 rfl ?_
      refine T_getR dX8_fault_28 clOK_X8 fl_X8_21 lyC_0 rfl rfl ?_
      refine T_aload_n dX8_fault_31 rfl ?_
      obtain ⟨r_7, M_8, hc_9, h⟩ := bd2_some h
      refine T_cvi (as := [vR (some q_3)]) dX8_fault_32 cw_X4_faultOf ml_X8_144 mi_X4_faultOf se_X4_faultOf lyC_3 rfl (by decide) rfl (Nat.le_of_ble_eq_true rfl) (Nat.le_of_ble_eq_true rfl) (m_X4_faultOf lw tl tt M q_3 hf_4 _ _ hc_9) ?_
      obtain ⟨rfl, rfl⟩ := sm2 h
      exact T_iret dX8_fault_35 ⟨rfl, rfl, rfl, rfl⟩
    · have h := it_neg hc h
      refine T_aload_n dX8_fault_19 rfl ?_
      refine T_iconst dX8_fault_20 ic_1 ?_
      obtain ⟨r_10, M_11, hc_12, h⟩ := bd2_some h
      refine T_cvi (as := [vI 1]) dX8_fault_21 cw_X8_found ml_X8_100 mi_X8_found se_X8_found lyC_0 rfl (by decide) rfl (Nat.le_of_ble_eq_true rfl) (Nat.le_of_ble_eq_true rfl) (m_X8_found lw tl tt M 1  _ _ hc_12) ?_
      refine T_goto (tgt := 35) dX8_fault_24 (by decide) ?_
      obtain ⟨rfl, rfl⟩ := sm2 h
      exact T_iret dX8_fault_35 ⟨rfl, rfl, rfl, rfl⟩
def X8_takeLaws_L21 (M : Mem) : (Int32 × (Nat → Option Nat)) → Option ((Int32 × (Nat → Option Nat)) ⊕ ((Nat → Option Nat) × Mem))
  | (x1, lw) =>
    if (gI M 0 8) ≤ x1 then some (.inr (lw, M))
    else bd1 (F_X4_kindAt M x1) fun r_5 => if r_5 < 0 then chk (inb x1 6 = true) (lett (va_up lw x1.toNatClampNeg none) fun lw_8 => lett (x1 + 1) fun x_10 => some (.inl (x_10, lw_8)))
    else if (nI 6) ≤ r_5 then chk (inb x1 6 = true) (lett (va_up lw x1.toNatClampNeg none) fun lw_13 => lett (x1 + 1) fun x_15 => some (.inl (x_15, lw_13)))
    else chk (inb r_5 6 = true) (lett (finC 13 r_5.toNatClampNeg) fun o_18 => oc o_18 (chk (inb x1 6 = true) (lett (va_up lw x1.toNatClampNeg none) fun lw_22 => lett (x1 + 1) fun x_24 => some (.inl (x_24, lw_22))))
    (fun q_20 => chk (isX3 q_20 = true) (chk (inb x1 6 = true) (lett (va_up lw x1.toNatClampNeg (some q_20)) fun lw_28 => lett (x1 + 1) fun x_30 => some (.inl (x_30, lw_28))))))
def F_X8_takeLaws (lw : Nat → Option Nat) (M : Mem) : Option ((Nat → Option Nat) × Mem) :=
 bd1 (F_J9_min_7cf53 (gI M 3 6) (nI 6)) fun r_1 => lett (sI M 0 8 r_1) fun M_3 => loop (X8_takeLaws_L21 M_3) FU (0, lw)
set_option maxRecDepth 100000 in
set_option maxHeartbeats 4000000 in
theorem s_X8_takeLaws_L21 (tl : Option Nat) (tt : Option Nat) (M : Mem) (x1 : Int32) (lw : Nat → Option Nat) {Po : Po_} (x : (Int32 × (Nat → Option Nat)) ⊕ ((Nat → Option Nat) × Mem)) (h : X8_takeLaws_L21 M (x1, lw) = some x) (hI : ∀ (ix1 : Int32) (ilw : Nat → Option Nat), x = .inl (ix1, ilw) → T RX8 cX8_takeLaws 3 none 2 2 0 0 false Po 21 [aR (some 0), aI ix1, aU] [] LAYC (rfs ilw tl tt) M 0 0) (hE0 : ∀ (elw : Nat → Option Nat) (eM : Mem), x = .inr (elw, eM) → Po (vI 0) LAYC (rfs elw tl tt) eM) : T RX8 cX8_takeLaws 3 none 2 2 0 0 false Po 21 [aR (some 0), aI x1, aU] [] LAYC (rfs lw tl tt) M 0 0 := by
  unfold X8_takeLaws_L21 at h
  simp only at h
  refine T_iload_n dX8_takeLaws_21 rfl ?_
  refine T_aload_n dX8_takeLaws_22 rfl ?_
  refine T_getI dX8_takeLaws_23 clOK_X8 fl_X8_246 lyC_0 rfl ?_
  refine T_icmp_ge (tgt := 73) dX8_takeLaws_26 (by decide) (fun hc => ?_) (fun hc => ?_)
  · have h := it_pos hc h
    obtain rfl := sm1 h
    exact T_vret dX8_takeLaws_73 (hE0 _ _ rfl)
  · have h := it_neg hc h
    refine T_aload_n dX8_takeLaws_29 rfl ?_
    refine T_getR dX8_takeLaws_30 clOK_X8 fl_X8_21 lyC_0 rfl rfl ?_
    refine T_iload_n dX8_takeLaws_33 rfl ?_
    obtain ⟨r_5, hc_6, h⟩ := bd1_some h
    refine T_cvi (as := [vI x1]) dX8_takeLaws_34 cw_X4_kindAt ml_X8_373 mi_X4_kindAt se_X4_kindAt lyC_3 rfl (by decide) rfl (Nat.le_of_ble_eq_true rfl) (Nat.le_of_ble_eq_true rfl) (m_X4_kindAt lw tl tt M x1  _ hc_6) ?_
    refine T_istore_n (i := 2) (L' := [aR (some 0), aI x1, aI r_5]) dX8_takeLaws_37 rfl (Nat.le_of_ble_eq_true rfl) rfl ?_
    refine T_aload_n dX8_takeLaws_38 rfl ?_
    refine T_getR dX8_takeLaws_39 clOK_X8 fl_X8_55 lyC_0 rfl rfl ?_
    refine T_iload_n dX8_takeLaws_42 rfl ?_
    refine T_iload_n dX8_takeLaws_43 rfl ?_
    refine T_if_lt (tgt := 65) dX8_takeLaws_44 (by decide) (fun hc => ?_) (fun hc => ?_)
    · have h := it_pos hc h
      refine T_null dX8_takeLaws_65 ?_
      obtain ⟨hi_7, h⟩ := chk_some h
      obtain ⟨lw_8, el_9, h⟩ := lett_some h
      refine T_aastN dX8_takeLaws_66 lyC_14 (Or.inr (Or.inl rfl)) (inb_in hi_7) (rfs_lw el_9) ?_
      obtain ⟨x_10, ex_11, h⟩ := lett_some h
      refine T_iinc (L' := [aR (some 0), aI x_10, aI r_5]) dX8_takeLaws_67 rfl (ic_inc ic_1 ex_11) (Nat.le_of_ble_eq_true rfl) rfl ?_
      refine T_goto (tgt := 21) dX8_takeLaws_70 (by decide) ?_
      obtain rfl := sm1 h
      refine T_mask [true, true, false] rfl ?_
      exact hI _ _ rfl
    · have h := it_neg hc h
      refine T_iload_n dX8_takeLaws_47 rfl ?_
      refine T_aload_n dX8_takeLaws_48 rfl ?_
      refine T_getR dX8_takeLaws_49 clOK_X8 fl_X8_51 lyC_0 rfl rfl ?_
      refine T_alen dX8_takeLaws_52 lyC_13 (Or.inr (Or.inr (Or.inr (Or.inl rfl)))) rfl ?_
      refine T_icmp_ge (tgt := 65) dX8_takeLaws_53 (by decide) (fun hc => ?_) (fun hc => ?_)
      · have h := it_pos hc h
        refine T_null dX8_takeLaws_65 ?_
        obtain ⟨hi_12, h⟩ := chk_some h
        obtain ⟨lw_13, el_14, h⟩ := lett_some h
        refine T_aastN dX8_takeLaws_66 lyC_14 (Or.inr (Or.inl rfl)) (inb_in hi_12) (rfs_lw el_14) ?_
        obtain ⟨x_15, ex_16, h⟩ := lett_some h
        refine T_iinc (L' := [aR (some 0), aI x_15, aI r_5]) dX8_takeLaws_67 rfl (ic_inc ic_1 ex_16) (Nat.le_of_ble_eq_true rfl) rfl ?_
        refine T_goto (tgt := 21) dX8_takeLaws_70 (by decide) ?_
        obtain rfl := sm1 h
        refine T_mask [true, true, false] rfl ?_
        exact hI _ _ rfl
      · have h := it_neg hc h
        refine T_aload_n dX8_takeLaws_56 rfl ?_
        refine T_getR dX8_takeLaws_57 clOK_X8 fl_X8_51 lyC_0 rfl rfl ?_
        refine T_iload_n dX8_takeLaws_60 rfl ?_
        obtain ⟨hi_17, h⟩ := chk_some h
        obtain ⟨o_18, eo_19, h⟩ := lett_some h
        refine T_aald dX8_takeLaws_61 lyC_13 (Or.inr (Or.inl rfl)) (inb_in hi_17) (Eq.symm eo_19) ?_
        refine T_goto (tgt := 66) dX8_takeLaws_62 (by decide) ?_
        cases o_18 with
        | none =>
          have h := oc_none h
          obtain ⟨hi_21, h⟩ := chk_some h
          obtain ⟨lw_22, el_23, h⟩ := lett_some h
          refine T_aastN dX8_takeLaws_66 lyC_14 (Or.inr (Or.inl rfl)) (inb_in hi_21) (rfs_lw el_23) ?_
          obtain ⟨x_24, ex_25, h⟩ := lett_some h
          refine T_iinc (L' := [aR (some 0), aI x_24, aI r_5]) dX8_takeLaws_67 rfl (ic_inc ic_1 ex_25) (Nat.le_of_ble_eq_true rfl) rfl ?_
          refine T_goto (tgt := 21) dX8_takeLaws_70 (by decide) ?_
          obtain rfl := sm1 h
          refine T_mask [true, true, false] rfl ?_
          exact hI _ _ rfl
        | some q_20 =>
          have h := oc_some h
          obtain ⟨hf_26, h⟩ := chk_some h
          obtain ⟨hi_27, h⟩ := chk_some h
          obtain ⟨lw_28, el_29, h⟩ := lett_some h
          refine T_aast dX8_takeLaws_66 lyC_14 (Or.inr (Or.inl ⟨rfl, rfl⟩)) (lyX3 hf_26) (inb_in hi_27) (rfs_lw el_29) ?_
          obtain ⟨x_30, ex_31, h⟩ := lett_some h
          refine T_iinc (L' := [aR (some 0), aI x_30, aI r_5]) dX8_takeLaws_67 rfl (ic_inc ic_1 ex_31) (Nat.le_of_ble_eq_true rfl) rfl ?_
          refine T_goto (tgt := 21) dX8_takeLaws_70 (by decide) ?_
          obtain rfl := sm1 h
          refine T_mask [true, true, false] rfl ?_
          exact hI _ _ rfl
set_option maxRecDepth 100000 in
set_option maxHeartbeats 4000000 in
theorem l_X8_takeLaws_L21 (tl : Option Nat) (tt : Option Nat) (M : Mem) {Po : Po_} (elw : Nat → Option Nat) (eM : Mem) : ∀ (k : Nat) (x1 : Int32) (lw : Nat → Option Nat), loop (X8_takeLaws_L21 M) k (x1, lw) = some (elw, eM) → (Po (vI 0) LAYC (rfs elw tl tt) eM) → T RX8 cX8_takeLaws 3 none 2 2 0 0 false Po 21 [aR (some 0), aI x1, aU] [] LAYC (rfs lw tl tt) M 0 0 := by
  intro k
  induction k with
  | zero => intro x1 lw h; cases h
  | succ k ih =>
    intro x1 lw h hE
    obtain ⟨x, hx, hx1, hx2⟩ := loop_succ h
    exact s_X8_takeLaws_L21  tl tt M  x1 lw x hx (fun q0 q1 e => ih q0 q1 (hx1 _ e) hE) (fun q0 q1 e => by cases hx2 _ e; exact hE)
set_option maxRecDepth 100000 in
set_option maxHeartbeats 4000000 in
theorem m_X8_takeLaws (tl : Option Nat) (tt : Option Nat) (lw : Nat → Option Nat) (M : Mem) (lw' : Nat → Option Nat) (M' : Mem) (h : F_X8_takeLaws lw M = some (lw', M')) : Cal yX8_takeLaws cX8_takeLaws 3 none 2 2 0 0 false [vR (some 0)] LAYC (rfs lw tl tt) M (eqp (vI 0) LAYC (rfs lw' tl tt) M') := by
  refine Cal.of (by decide +kernel) (Nat.le_of_ble_eq_true rfl) (fun h => by cases h) ?_
  unfold F_X8_takeLaws at h
  show T RX8 cX8_takeLaws 3 none 2 2 0 0 false (eqp (vI 0) LAYC (rfs lw' tl tt) M') 0 [aR (some 0), aU, aU] [] LAYC (rfs lw tl tt) M 0 0
  refine T_aload_n dX8_takeLaws_0 rfl ?_
  refine T_aload_n dX8_takeLaws_1 rfl ?_
  refine T_getR dX8_takeLaws_2 clOK_X8 fl_X8_21 lyC_0 rfl rfl ?_
  refine T_getI dX8_takeLaws_5 clOK_X4 fl_X8_368 lyC_3 rfl ?_
  refine T_aload_n dX8_takeLaws_8 rfl ?_
  refine T_getR dX8_takeLaws_9 clOK_X8 fl_X8_55 lyC_0 rfl rfl ?_
  refine T_alen dX8_takeLaws_12 lyC_14 (Or.inr (Or.inr (Or.inr (Or.inl rfl)))) rfl ?_
  obtain ⟨r_1, hc_2, h⟩ := bd1_some h
  refine T_csi (as := [vI (gI M 3 6), vI (nI 6)]) dX8_takeLaws_13 cw_J9_min_7cf53 ml_X8_370 mt_J9_min_7cf53 rfl (Nat.le_of_ble_eq_true rfl) (Nat.le_of_ble_eq_true rfl) (m_J9_min_7cf53 LAYC (rfs lw tl tt) M (gI M 3 6) (nI 6)  _ hc_2) ?_
  obtain ⟨M_3, eM_4, h⟩ := lett_some h
  refine T_putI dX8_takeLaws_16 clOK_X8 fl_X8_246 (Or.inl rfl) lyC_0 rfl rfl eM_4 ?_
  refine T_iconst dX8_takeLaws_19 ic_0 ?_
  refine T_istore_n (i := 1) (L' := [aR (some 0), aI 0, aU]) dX8_takeLaws_20 rfl (Nat.le_of_ble_eq_true rfl) rfl ?_
  exact l_X8_takeLaws_L21  tl tt M_3  _ _ FU 0 lw h ⟨rfl, rfl, rfl, rfl⟩
def X8_ground_L76 (lw : Nat → Option Nat) : Int32 × Mem → Option ((Int32 × Mem) ⊕ (Int32 × (Nat → Option Nat) × Mem))
  | (x3, M) =>
    if (nI 3) ≤ x3 then some (.inr (gI M 7 0, lw, M))
    else chk (inb x3 3 = true) (lett (finC 12 x3.toNatClampNeg) fun o_20 => oc o_20 none (fun q_22 => chk (isX1 q_22 = true) (bd1 (F_X1_go M q_22) fun M_24 => lett (x3 + 1) fun x_26 => some (.inl (x_26, M_24)))))
def F_X8_ground (lw : Nat → Option Nat) (M : Mem) (x1 : Int32) : Option (Int32 × (Nat → Option Nat) × Mem) :=
 bd1 (F_X8_textOf x1) fun o_1 => oc o_1 (some ((-1), lw, M))
 (fun q_3 => chk (isX5 q_3 = true) (bd1 (F_X5_isMissing M q_3) fun r_5 => if r_5 = 0 then bd2 (F_X4_faultOf M q_3) fun r_7 M_8 => if r_7 = (-9) then bd1 (F_X2_layOut M_8) fun M_10 => bd1 (F_X1_begin M_10 9) fun M_12 => bd2 (F_X8_takeLaws lw M_12) fun lw_14 M_15 => bd1 (F_X0_forget M_15) fun M_17 => loop (X8_ground_L76 lw_14) FU (0, M_17)
 else some ((-4), lw, M_8)
 else bd2 (F_X8_found M 1) fun r_28 M_29 => some (r_28, lw, M_29)))
set_option maxRecDepth 100000 in
set_option maxHeartbeats 4000000 in
theorem s_X8_ground_L76 (tl : Option Nat) (tt : Option Nat) (lw : Nat → Option Nat) (x3 : Int32) (M : Mem) {Po : Po_} (x : (Int32 × Mem) ⊕ (Int32 × (Nat → Option Nat) × Mem)) (h : X8_ground_L76 lw (x3, M) = some x) (hI : ∀ (ix3 : Int32) (iM : Mem), x = .inl (ix3, iM) → T RX8 cX8_ground 4 (some .int) 0 8 0 0 false Po 76 [aR (some 0), aU, aU, aI ix3] [] LAYC (rfs lw tl tt) iM 0 0) (hE0 : ∀ (er : Int32) (elw : Nat → Option Nat) (eM : Mem), x = .inr (er, elw, eM) → Po (vI er) LAYC (rfs elw tl tt) eM) : T RX8 cX8_ground 4 (some .int) 0 8 0 0 false Po 76 [aR (some 0), aU, aU, aI x3] [] LAYC (rfs lw tl tt) M 0 0 := by
  unfold X8_ground_L76 at h
  simp only at h
  refine T_iload_n dX8_ground_76 rfl ?_
  refine T_aload_n dX8_ground_77 rfl ?_
  refine T_getR dX8_ground_78 clOK_X8 fl_X8_41 lyC_0 rfl rfl ?_
  refine T_alen dX8_ground_81 lyC_12 (Or.inr (Or.inr (Or.inl rfl))) rfl ?_
  refine T_icmp_ge (tgt := 100) dX8_ground_82 (by decide) (fun hc => ?_) (fun hc => ?_)
  · have h := it_pos hc h
    refine T_aload_n dX8_ground_100 rfl ?_
    refine T_getR dX8_ground_101 clOK_X8 fl_X8_28 lyC_0 rfl rfl ?_
    refine T_getI dX8_ground_104 clOK_X2 fl_X8_164 lyC_7 rfl ?_
    obtain rfl := sm1 h
    exact T_iret dX8_ground_107 (hE0 _ _ _ rfl)
  · have h := it_neg hc h
    refine T_aload_n dX8_ground_85 rfl ?_
    refine T_getR dX8_ground_86 clOK_X8 fl_X8_41 lyC_0 rfl rfl ?_
    refine T_iload_n dX8_ground_89 rfl ?_
    obtain ⟨hi_19, h⟩ := chk_some h
    obtain ⟨o_20, eo_21, h⟩ := lett_some h
    refine T_aald dX8_ground_90 lyC_12 (Or.inl rfl) (inb_in hi_19) (Eq.symm eo_21) ?_
    cases o_20 with
    | none => exact absurd (oc_none h) (fun e => by cases e)
    | some q_22 =>
      have h := oc_some h
      obtain ⟨hf_23, h⟩ := chk_some h
      obtain ⟨M_24, hc_25, h⟩ := bd1_some h
      refine T_cvv (as := []) dX8_ground_91 cw_X1_go ml_X8_161 mi_X1_go se_X1_go (lyX1 hf_23) rfl (by decide) rfl (Nat.le_of_ble_eq_true rfl) (Nat.le_of_ble_eq_true rfl) (m_X1_go lw tl tt M q_22 hf_23 _ hc_25) ?_
      obtain ⟨x_26, ex_27, h⟩ := lett_some h
      refine T_iinc (L' := [aR (some 0), aU, aU, aI x_26]) dX8_ground_94 rfl (ic_inc ic_1 ex_27) (Nat.le_of_ble_eq_true rfl) rfl ?_
      refine T_goto (tgt := 76) dX8_ground_97 (by decide) ?_
      obtain rfl := sm1 h
      exact hI _ _ rfl
set_option maxRecDepth 100000 in
set_option maxHeartbeats 4000000 in
theorem l_X8_ground_L76 (tl : Option Nat) (tt : Option Nat) (lw : Nat → Option Nat) {Po : Po_} (er : Int32) (elw : Nat → Option Nat) (eM : Mem) : ∀ (k : Nat) (x3 : Int32) (M : Mem), loop (X8_ground_L76 lw) k (x3, M) = some (er, elw, eM) → (Po (vI er) LAYC (rfs elw tl tt) eM) → T RX8 cX8_ground 4 (some .int) 0 8 0 0 false Po 76 [aR (some 0), aU, aU, aI x3] [] LAYC (rfs lw tl tt) M 0 0 := by
  intro k
  induction k with
  | zero => intro x3 M h; cases h
  | succ k ih =>
    intro x3 M h hE
    obtain ⟨x, hx, hx1, hx2⟩ := loop_succ h
    exact s_X8_ground_L76  tl tt lw  x3 M x hx (fun q0 q1 e => ih q0 q1 (hx1 _ e) hE) (fun q0 q1 q2 e => by cases hx2 _ e; exact hE)
set_option maxRecDepth 100000 in
set_option maxHeartbeats 4000000 in
theorem m_X8_ground (tl : Option Nat) (tt : Option Nat) (lw : Nat → Option Nat) (M : Mem) (x1 : Int32) (r : Int32) (lw' : Nat → Option Nat) (M' : Mem) (h : F_X8_ground lw M x1 = some (r, lw', M')) : Cal yX8_ground cX8_ground 4 (some .int) 0 8 0 0 false [vR (some 0), vI x1] LAYC (rfs lw tl tt) M (eqp (vI r) LAYC (rfs lw' tl tt) M') := by
  refine Cal.of (by decide +kernel) (Nat.le_of_ble_eq_true rfl) (fun h => by cases h) ?_
  unfold F_X8_ground at h
  show T RX8 cX8_ground 4 (some .int) 0 8 0 0 false (eqp (vI r) LAYC (rfs lw' tl tt) M') 0 [aR (some 0), aI x1, aU, aU] [] LAYC (rfs lw tl tt) M 0 0
  refine T_aload_n dX8_ground_0 rfl ?_
  refine T_iload_n dX8_ground_1 rfl ?_
  obtain ⟨o_1, hc_2, h⟩ := bd1_some h
  refine T_cvq (as := [vI x1]) dX8_ground_2 cw_X8_textOf ml_X8_141 mi_X8_textOf se_X8_textOf lyC_0 rfl (by decide) rfl (Nat.le_of_ble_eq_true rfl) (Nat.le_of_ble_eq_true rfl) (m_X8_textOf lw tl tt M x1  _ hc_2) ?_
  refine T_astore_n (i := 2) (L' := [aR (some 0), aI x1, aR o_1, aU]) dX8_ground_5 rfl (Nat.le_of_ble_eq_true rfl) rfl ?_
  refine T_aload_n dX8_ground_6 rfl ?_
  cases o_1 with
  | none =>
    have h := oc_none h
    refine T_ifnonnull0 dX8_ground_7 ?_
    refine T_iconst dX8_ground_10 ic_m1 ?_
    obtain ⟨rfl, rfl, rfl⟩ := sm3 h
    exact T_iret dX8_ground_11 ⟨rfl, rfl, rfl, rfl⟩
  | some q_3 =>
    have h := oc_some h
    refine T_ifnonnull1 (tgt := 12) dX8_ground_7 (by decide) ?_
    refine T_aload_n dX8_ground_12 rfl ?_
    obtain ⟨hf_4, h⟩ := chk_some h
    obtain ⟨r_5, hc_6, h⟩ := bd1_some h
    refine T_cvi (as := []) dX8_ground_13 cw_X5_isMissing ml_X8_118 mi_X5_isMissing se_X5_isMissing (lyX5 hf_4) rfl (by decide) rfl (Nat.le_of_ble_eq_true rfl) (Nat.le_of_ble_eq_true rfl) (m_X5_isMissing lw tl tt M q_3 hf_4 _ hc_6) ?_
    refine T_if_eq (tgt := 25) dX8_ground_16 (by decide) (fun hc => ?_) (fun hc => ?_)
    · have h := it_pos hc h
      refine T_aload_n dX8_ground_25 rfl ?_
      refine T_getR dX8_ground_26 clOK_X8 fl_X8_21 lyC_0 rfl rfl ?_
      refine T_aload_n dX8_ground_29 rfl ?_
      obtain ⟨r_7, M_8, hc_9, h⟩ := bd2_some h
      refine T_cvi (as := [vR (some q_3)]) dX8_ground_30 cw_X4_faultOf ml_X8_144 mi_X4_faultOf se_X4_faultOf lyC_3 rfl (by decide) rfl (Nat.le_of_ble_eq_true rfl) (Nat.le_of_ble_eq_true rfl) (m_X4_faultOf lw tl tt M q_3 hf_4 _ _ hc_9) ?_
      refine T_bipush dX8_ground_33 bp_m9 ?_
      refine T_icmp_eq (tgt := 41) dX8_ground_35 (by decide) (fun hc => ?_) (fun hc => ?_)
      · have h := it_pos hc h
        refine T_aload_n dX8_ground_41 rfl ?_
        refine T_getR dX8_ground_42 clOK_X8 fl_X8_28 lyC_0 rfl rfl ?_
        refine T_aload_n dX8_ground_45 rfl ?_
        refine T_getR dX8_ground_46 clOK_X8 fl_X8_21 lyC_0 rfl rfl ?_
        obtain ⟨M_10, hc_11, h⟩ := bd1_some h
        refine T_cvv (as := [vR (some 3)]) dX8_ground_49 cw_X2_layOut ml_X8_148 mi_X2_layOut se_X2_layOut lyC_7 rfl (by decide) rfl (Nat.le_of_ble_eq_true rfl) (Nat.le_of_ble_eq_true rfl) (m_X2_layOut lw tl tt M_8  _ hc_11) ?_
        refine T_aload_n dX8_ground_52 rfl ?_
        refine T_getR dX8_ground_53 clOK_X8 fl_X8_37 lyC_0 rfl rfl ?_
        refine T_aload_n dX8_ground_56 rfl ?_
        refine T_getR dX8_ground_57 clOK_X8 fl_X8_21 lyC_0 rfl rfl ?_
        obtain ⟨M_12, hc_13, h⟩ := bd1_some h
        refine T_cvv (as := [vR (some 3)]) dX8_ground_60 cw_X1_begin ml_X8_152 mi_X1_begin se_X1_begin lyC_9 rfl (by decide) rfl (Nat.le_of_ble_eq_true rfl) (Nat.le_of_ble_eq_true rfl) (m_X1_begin lw tl tt M_10 9 rfl _ hc_13) ?_
        refine T_aload_n dX8_ground_63 rfl ?_
        obtain ⟨lw_14, M_15, hc_16, h⟩ := bd2_some h
        refine T_cvv (as := []) dX8_ground_64 cw_X8_takeLaws ml_X8_155 mi_X8_takeLaws se_X8_takeLaws lyC_0 rfl (by decide) rfl (Nat.le_of_ble_eq_true rfl) (Nat.le_of_ble_eq_true rfl) (m_X8_takeLaws tl tt lw M_12  _ _ hc_16) ?_
        refine T_aload_n dX8_ground_67 rfl ?_
        refine T_getR dX8_ground_68 clOK_X8 fl_X8_61 lyC_0 rfl rfl ?_
        obtain ⟨M_17, hc_18, h⟩ := bd1_some h
        refine T_cvv (as := []) dX8_ground_71 cw_X0_forget ml_X8_158 mi_X0_forget se_X0_forget lyC_15 rfl (by decide) rfl (Nat.le_of_ble_eq_true rfl) (Nat.le_of_ble_eq_true rfl) (m_X0_forget lw_14 tl tt M_15  _ hc_18) ?_
        refine T_iconst dX8_ground_74 ic_0 ?_
        refine T_istore_n (i := 3) (L' := [aR (some 0), aI x1, aR (some q_3), aI 0]) dX8_ground_75 rfl (Nat.le_of_ble_eq_true rfl) rfl ?_
        refine T_mask [true, false, false, true] rfl ?_
        exact l_X8_ground_L76  tl tt lw_14  _ _ _ FU 0 M_17 h ⟨rfl, rfl, rfl, rfl⟩
      · have h := it_neg hc h
        refine T_bipush dX8_ground_38 bp_m4 ?_
        obtain ⟨rfl, rfl, rfl⟩ := sm3 h
        exact T_iret dX8_ground_40 ⟨rfl, rfl, rfl, rfl⟩
    · have h := it_neg hc h
      refine T_aload_n dX8_ground_19 rfl ?_
      refine T_iconst dX8_ground_20 ic_1 ?_
      obtain ⟨r_28, M_29, hc_30, h⟩ := bd2_some h
      refine T_cvi (as := [vI 1]) dX8_ground_21 cw_X8_found ml_X8_100 mi_X8_found se_X8_found lyC_0 rfl (by decide) rfl (Nat.le_of_ble_eq_true rfl) (Nat.le_of_ble_eq_true rfl) (m_X8_found lw tl tt M 1  _ _ hc_30) ?_
      obtain ⟨rfl, rfl, rfl⟩ := sm3 h
      exact T_iret dX8_ground_24 ⟨rfl, rfl, rfl, rfl⟩
def F_X8_cellTold (M : Mem) (x1 : Int32) (x2 : Int32) : Option (Int32) :=
 if x2 = 0 then bd1 (F_X1_depthAt M 9 x1) fun r_1 => some r_1
 else if x2 = 1 then bd1 (F_X2_gardenerAt M x1) fun r_3 => some r_3
 else bd1 (F_X1_holeAt M 9 x1) fun r_5 => some r_5
set_option maxRecDepth 100000 in
set_option maxHeartbeats 4000000 in
theorem m_X8_cellTold (lw : Nat → Option Nat) (tl : Option Nat) (tt : Option Nat) (M : Mem) (x1 : Int32) (x2 : Int32) (r : Int32) (h : F_X8_cellTold M x1 x2 = some r) : Cal yX8_cellTold cX8_cellTold 3 (some .int) 0 4 0 0 false [vR (some 0), vI x1, vI x2] LAYC (rfs lw tl tt) M (eqp (vI r) LAYC (rfs lw tl tt) M) := by
  refine Cal.of (by decide +kernel) (Nat.le_of_ble_eq_true rfl) (fun h => by cases h) ?_
  unfold F_X8_cellTold at h
  show T RX8 cX8_cellTold 3 (some .int) 0 4 0 0 false (eqp (vI r) LAYC (rfs lw tl tt) M) 0 [aR (some 0), aI x1, aI x2] [] LAYC (rfs lw tl tt) M 0 0
  refine T_iload_n dX8_cellTold_0 rfl ?_
  by_cases hs0 : x2 = 0
  · have h := it_pos hs0 h
    refine T_eqI hs0 ?_
    refine T_lookup (off := 27) (tgt := 28) dX8_cellTold_1 (by decide) (by decide) (by decide) ?_
    refine T_aload_n dX8_cellTold_28 rfl ?_
    refine T_getR dX8_cellTold_29 clOK_X8 fl_X8_37 lyC_0 rfl rfl ?_
    refine T_iload_n dX8_cellTold_32 rfl ?_
    obtain ⟨r_1, hc_2, h⟩ := bd1_some h
    refine T_cvi (as := [vI x1]) dX8_cellTold_33 cw_X1_depthAt ml_X8_203 mi_X1_depthAt se_X1_depthAt lyC_9 rfl (by decide) rfl (Nat.le_of_ble_eq_true rfl) (Nat.le_of_ble_eq_true rfl) (m_X1_depthAt lw tl tt M 9 x1 rfl _ hc_2) ?_
    obtain rfl := sm1 h
    exact T_iret dX8_cellTold_36 ⟨rfl, rfl, rfl, rfl⟩
  · have h := it_neg hs0 h
    by_cases hs1 : x2 = 1
    · have h := it_pos hs1 h
      refine T_eqI hs1 ?_
      refine T_lookup (off := 36) (tgt := 37) dX8_cellTold_1 (by decide) (by decide) (by decide) ?_
      refine T_aload_n dX8_cellTold_37 rfl ?_
      refine T_getR dX8_cellTold_38 clOK_X8 fl_X8_28 lyC_0 rfl rfl ?_
      refine T_iload_n dX8_cellTold_41 rfl ?_
      obtain ⟨r_3, hc_4, h⟩ := bd1_some h
      refine T_cvi (as := [vI x1]) dX8_cellTold_42 cw_X2_gardenerAt ml_X8_376 mi_X2_gardenerAt se_X2_gardenerAt lyC_7 rfl (by decide) rfl (Nat.le_of_ble_eq_true rfl) (Nat.le_of_ble_eq_true rfl) (m_X2_gardenerAt lw tl tt M x1  _ hc_4) ?_
      obtain rfl := sm1 h
      exact T_iret dX8_cellTold_45 ⟨rfl, rfl, rfl, rfl⟩
    · have h := it_neg hs1 h
      refine T_lookup (off := 45) (tgt := 46) dX8_cellTold_1 (by decide) (look2 hs0 hs1) (by decide) ?_
      refine T_aload_n dX8_cellTold_46 rfl ?_
      refine T_getR dX8_cellTold_47 clOK_X8 fl_X8_37 lyC_0 rfl rfl ?_
      refine T_iload_n dX8_cellTold_50 rfl ?_
      obtain ⟨r_5, hc_6, h⟩ := bd1_some h
      refine T_cvi (as := [vI x1]) dX8_cellTold_51 cw_X1_holeAt ml_X8_379 mi_X1_holeAt se_X1_holeAt lyC_9 rfl (by decide) rfl (Nat.le_of_ble_eq_true rfl) (Nat.le_of_ble_eq_true rfl) (m_X1_holeAt lw tl tt M 9 x1 rfl _ hc_6) ?_
      obtain rfl := sm1 h
      exact T_iret dX8_cellTold_54 ⟨rfl, rfl, rfl, rfl⟩
def F_X8_cell (M : Mem) (x1 : Int32) (x2 : Int32) : Option (Int32 × Mem) :=
 bd1 (F_X2_has M x1) fun r_1 => if r_1 = 0 then some ((-1), M)
 else if x2 < 0 then some ((-1), M)
 else if x2 < (nI 3) then bd1 (F_X8_cellTold M x1 x2) fun r_3 => bd2 (F_X8_tell M r_3) fun r_5 M_6 => some (r_5, M_6)
 else some ((-1), M)
set_option maxRecDepth 100000 in
set_option maxHeartbeats 4000000 in
theorem m_X8_cell (lw : Nat → Option Nat) (tl : Option Nat) (tt : Option Nat) (M : Mem) (x1 : Int32) (x2 : Int32) (r : Int32) (M' : Mem) (h : F_X8_cell M x1 x2 = some (r, M')) : Cal yX8_cell cX8_cell 3 (some .int) 0 5 0 0 false [vR (some 0), vI x1, vI x2] LAYC (rfs lw tl tt) M (eqp (vI r) LAYC (rfs lw tl tt) M') := by
  refine Cal.of (by decide +kernel) (Nat.le_of_ble_eq_true rfl) (fun h => by cases h) ?_
  unfold F_X8_cell at h
  show T RX8 cX8_cell 3 (some .int) 0 5 0 0 false (eqp (vI r) LAYC (rfs lw tl tt) M') 0 [aR (some 0), aI x1, aI x2] [] LAYC (rfs lw tl tt) M 0 0
  refine T_aload_n dX8_cell_0 rfl ?_
  refine T_getR dX8_cell_1 clOK_X8 fl_X8_28 lyC_0 rfl rfl ?_
  refine T_iload_n dX8_cell_4 rfl ?_
  obtain ⟨r_1, hc_2, h⟩ := bd1_some h
  refine T_cvi (as := [vI x1]) dX8_cell_5 cw_X2_has ml_X8_167 mi_X2_has se_X2_has lyC_7 rfl (by decide) rfl (Nat.le_of_ble_eq_true rfl) (Nat.le_of_ble_eq_true rfl) (m_X2_has lw tl tt M x1  _ hc_2) ?_
  refine T_if_eq (tgt := 20) dX8_cell_8 (by decide) (fun hc => ?_) (fun hc => ?_)
  · have h := it_pos hc h
    refine T_iconst dX8_cell_20 ic_m1 ?_
    obtain ⟨rfl, rfl⟩ := sm2 h
    exact T_iret dX8_cell_21 ⟨rfl, rfl, rfl, rfl⟩
  · have h := it_neg hc h
    refine T_iload_n dX8_cell_11 rfl ?_
    refine T_if_lt (tgt := 20) dX8_cell_12 (by decide) (fun hc => ?_) (fun hc => ?_)
    · have h := it_pos hc h
      refine T_iconst dX8_cell_20 ic_m1 ?_
      obtain ⟨rfl, rfl⟩ := sm2 h
      exact T_iret dX8_cell_21 ⟨rfl, rfl, rfl, rfl⟩
    · have h := it_neg hc h
      refine T_iload_n dX8_cell_15 rfl ?_
      refine T_iconst dX8_cell_16 ic_3 ?_
      refine T_icmp_lt (tgt := 22) dX8_cell_17 (by decide) (fun hc => ?_) (fun hc => ?_)
      · have h := it_pos hc h
        refine T_aload_n dX8_cell_22 rfl ?_
        refine T_aload_n dX8_cell_23 rfl ?_
        refine T_iload_n dX8_cell_24 rfl ?_
        refine T_iload_n dX8_cell_25 rfl ?_
        obtain ⟨r_3, hc_4, h⟩ := bd1_some h
        refine T_cvi (as := [vI x1, vI x2]) dX8_cell_26 cw_X8_cellTold ml_X8_171 mi_X8_cellTold se_X8_cellTold lyC_0 rfl (by decide) rfl (Nat.le_of_ble_eq_true rfl) (Nat.le_of_ble_eq_true rfl) (m_X8_cellTold lw tl tt M x1 x2  _ hc_4) ?_
        obtain ⟨r_5, M_6, hc_7, h⟩ := bd2_some h
        refine T_cvi (as := [vI r_3]) dX8_cell_29 cw_X8_tell ml_X8_115 mi_X8_tell se_X8_tell lyC_0 rfl (by decide) rfl (Nat.le_of_ble_eq_true rfl) (Nat.le_of_ble_eq_true rfl) (m_X8_tell lw tl tt M r_3  _ _ hc_7) ?_
        obtain ⟨rfl, rfl⟩ := sm2 h
        exact T_iret dX8_cell_32 ⟨rfl, rfl, rfl, rfl⟩
      · have h := it_neg hc h
        refine T_iconst dX8_cell_20 ic_m1 ?_
        obtain ⟨rfl, rfl⟩ := sm2 h
        exact T_iret dX8_cell_21 ⟨rfl, rfl, rfl, rfl⟩
def F_X8_lawOf (lw : Nat → Option Nat) (M : Mem) (x1 : Int32) : Option (Option Nat) :=
 if x1 < 0 then some none
 else if (gI M 0 8) ≤ x1 then some none
 else if (nI 6) ≤ x1 then some none
 else chk (inb x1 6 = true) (lett (lw x1.toNatClampNeg) fun o_2 => some o_2)
set_option maxRecDepth 100000 in
set_option maxHeartbeats 4000000 in
theorem m_X8_lawOf (tl : Option Nat) (tt : Option Nat) (lw : Nat → Option Nat) (M : Mem) (x1 : Int32) (r : Option Nat) (h : F_X8_lawOf lw M x1 = some r) : Cal yX8_lawOf cX8_lawOf 2 (some (.object "HoleMoved$Law")) 3 1 0 0 false [vR (some 0), vI x1] LAYC (rfs lw tl tt) M (eqp (vR r) LAYC (rfs lw tl tt) M) := by
  refine Cal.of (by decide +kernel) (Nat.le_of_ble_eq_true rfl) (fun h => by cases h) ?_
  unfold F_X8_lawOf at h
  show T RX8 cX8_lawOf 2 (some (.object "HoleMoved$Law")) 3 1 0 0 false (eqp (vR r) LAYC (rfs lw tl tt) M) 0 [aR (some 0), aI x1] [] LAYC (rfs lw tl tt) M 0 0
  refine T_iload_n dX8_lawOf_0 rfl ?_
  refine T_if_lt (tgt := 30) dX8_lawOf_1 (by decide) (fun hc => ?_) (fun hc => ?_)
  · have h := it_pos hc h
    refine T_null dX8_lawOf_30 ?_
    obtain rfl := sm1 h
    exact T_aret dX8_lawOf_31 ⟨rfl, rfl, rfl, rfl⟩
  · have h := it_neg hc h
    refine T_iload_n dX8_lawOf_4 rfl ?_
    refine T_aload_n dX8_lawOf_5 rfl ?_
    refine T_getI dX8_lawOf_6 clOK_X8 fl_X8_246 lyC_0 rfl ?_
    refine T_icmp_ge (tgt := 30) dX8_lawOf_9 (by decide) (fun hc => ?_) (fun hc => ?_)
    · have h := it_pos hc h
      refine T_null dX8_lawOf_30 ?_
      obtain rfl := sm1 h
      exact T_aret dX8_lawOf_31 ⟨rfl, rfl, rfl, rfl⟩
    · have h := it_neg hc h
      refine T_iload_n dX8_lawOf_12 rfl ?_
      refine T_aload_n dX8_lawOf_13 rfl ?_
      refine T_getR dX8_lawOf_14 clOK_X8 fl_X8_55 lyC_0 rfl rfl ?_
      refine T_alen dX8_lawOf_17 lyC_14 (Or.inr (Or.inr (Or.inr (Or.inl rfl)))) rfl ?_
      refine T_icmp_ge (tgt := 30) dX8_lawOf_18 (by decide) (fun hc => ?_) (fun hc => ?_)
      · have h := it_pos hc h
        refine T_null dX8_lawOf_30 ?_
        obtain rfl := sm1 h
        exact T_aret dX8_lawOf_31 ⟨rfl, rfl, rfl, rfl⟩
      · have h := it_neg hc h
        refine T_aload_n dX8_lawOf_21 rfl ?_
        refine T_getR dX8_lawOf_22 clOK_X8 fl_X8_55 lyC_0 rfl rfl ?_
        refine T_iload_n dX8_lawOf_25 rfl ?_
        obtain ⟨hi_1, h⟩ := chk_some h
        obtain ⟨o_2, eo_3, h⟩ := lett_some h
        refine T_aald dX8_lawOf_26 lyC_14 (Or.inr (Or.inl rfl)) (inb_in hi_1) (Eq.symm eo_3) ?_
        refine T_goto (tgt := 31) dX8_lawOf_27 (by decide) ?_
        obtain rfl := sm1 h
        exact T_aret dX8_lawOf_31 ⟨rfl, rfl, rfl, rfl⟩
def F_X8_law (lw : Nat → Option Nat) (M : Mem) (x1 : Int32) : Option (Int32) :=
 bd1 (F_X8_lawOf lw M x1) fun o_1 => oc o_1 (some (-1))
 (fun q_3 => chk (isX3 q_3 = true) (some (gI M q_3 0)))
set_option maxRecDepth 100000 in
set_option maxHeartbeats 4000000 in
theorem m_X8_law (tl : Option Nat) (tt : Option Nat) (lw : Nat → Option Nat) (M : Mem) (x1 : Int32) (r : Int32) (h : F_X8_law lw M x1 = some r) : Cal yX8_law cX8_law 3 (some .int) 0 2 0 0 false [vR (some 0), vI x1] LAYC (rfs lw tl tt) M (eqp (vI r) LAYC (rfs lw tl tt) M) := by
  refine Cal.of (by decide +kernel) (Nat.le_of_ble_eq_true rfl) (fun h => by cases h) ?_
  unfold F_X8_law at h
  show T RX8 cX8_law 3 (some .int) 0 2 0 0 false (eqp (vI r) LAYC (rfs lw tl tt) M) 0 [aR (some 0), aI x1, aU] [] LAYC (rfs lw tl tt) M 0 0
  refine T_aload_n dX8_law_0 rfl ?_
  refine T_iload_n dX8_law_1 rfl ?_
  obtain ⟨o_1, hc_2, h⟩ := bd1_some h
  refine T_cvq (as := [vI x1]) dX8_law_2 cw_X8_lawOf ml_X8_175 mi_X8_lawOf se_X8_lawOf lyC_0 rfl (by decide) rfl (Nat.le_of_ble_eq_true rfl) (Nat.le_of_ble_eq_true rfl) (m_X8_lawOf tl tt lw M x1  _ hc_2) ?_
  refine T_astore_n (i := 2) (L' := [aR (some 0), aI x1, aR o_1]) dX8_law_5 rfl (Nat.le_of_ble_eq_true rfl) rfl ?_
  refine T_aload_n dX8_law_6 rfl ?_
  cases o_1 with
  | none =>
    have h := oc_none h
    refine T_ifnonnull0 dX8_law_7 ?_
    refine T_iconst dX8_law_10 ic_m1 ?_
    refine T_goto (tgt := 18) dX8_law_11 (by decide) ?_
    obtain rfl := sm1 h
    exact T_iret dX8_law_18 ⟨rfl, rfl, rfl, rfl⟩
  | some q_3 =>
    have h := oc_some h
    refine T_ifnonnull1 (tgt := 14) dX8_law_7 (by decide) ?_
    refine T_aload_n dX8_law_14 rfl ?_
    obtain ⟨hf_4, h⟩ := chk_some h
    refine T_getI dX8_law_15 clOK_X3 fl_X8_179 (lyX3 hf_4) rfl ?_
    obtain rfl := sm1 h
    exact T_iret dX8_law_18 ⟨rfl, rfl, rfl, rfl⟩
def F_X8_mark (lw : Nat → Option Nat) (M : Mem) (x1 : Int32) (x2 : Int32) : Option (Int32 × Mem) :=
 bd1 (F_X8_lawOf lw M x1) fun o_1 => oc o_1 (some ((-1), M))
 (fun q_3 => if x2 ≤ 0 then some ((-1), M)
 else if x2 < (nI 6) then chk (isX3 q_3 = true) (bd1 (F_X3_is M q_3 x2) fun r_5 => if r_5 = 0 then bd2 (F_X8_found M (nI 3)) fun r_7 M_8 => some (r_7, M_8)
 else bd1 (F_X3_tells M q_3 x2 9) fun r_10 => some (r_10, M))
 else some ((-1), M))
set_option maxRecDepth 100000 in
set_option maxHeartbeats 4000000 in
theorem m_X8_mark (tl : Option Nat) (tt : Option Nat) (lw : Nat → Option Nat) (M : Mem) (x1 : Int32) (x2 : Int32) (r : Int32) (M' : Mem) (h : F_X8_mark lw M x1 x2 = some (r, M')) : Cal yX8_mark cX8_mark 4 (some .int) 0 5 0 0 false [vR (some 0), vI x1, vI x2] LAYC (rfs lw tl tt) M (eqp (vI r) LAYC (rfs lw tl tt) M') := by
  refine Cal.of (by decide +kernel) (Nat.le_of_ble_eq_true rfl) (fun h => by cases h) ?_
  unfold F_X8_mark at h
  show T RX8 cX8_mark 4 (some .int) 0 5 0 0 false (eqp (vI r) LAYC (rfs lw tl tt) M') 0 [aR (some 0), aI x1, aI x2, aU] [] LAYC (rfs lw tl tt) M 0 0
  refine T_aload_n dX8_mark_0 rfl ?_
  refine T_iload_n dX8_mark_1 rfl ?_
  obtain ⟨o_1, hc_2, h⟩ := bd1_some h
  refine T_cvq (as := [vI x1]) dX8_mark_2 cw_X8_lawOf ml_X8_175 mi_X8_lawOf se_X8_lawOf lyC_0 rfl (by decide) rfl (Nat.le_of_ble_eq_true rfl) (Nat.le_of_ble_eq_true rfl) (m_X8_lawOf tl tt lw M x1  _ hc_2) ?_
  refine T_astore_n (i := 3) (L' := [aR (some 0), aI x1, aI x2, aR o_1]) dX8_mark_5 rfl (Nat.le_of_ble_eq_true rfl) rfl ?_
  refine T_aload_n dX8_mark_6 rfl ?_
  cases o_1 with
  | none =>
    have h := oc_none h
    refine T_ifnull0 (tgt := 22) dX8_mark_7 (by decide) ?_
    refine T_iconst dX8_mark_22 ic_m1 ?_
    obtain ⟨rfl, rfl⟩ := sm2 h
    exact T_iret dX8_mark_23 ⟨rfl, rfl, rfl, rfl⟩
  | some q_3 =>
    have h := oc_some h
    refine T_ifnull1 dX8_mark_7 ?_
    refine T_iload_n dX8_mark_10 rfl ?_
    refine T_if_le (tgt := 22) dX8_mark_11 (by decide) (fun hc => ?_) (fun hc => ?_)
    · have h := it_pos hc h
      refine T_iconst dX8_mark_22 ic_m1 ?_
      obtain ⟨rfl, rfl⟩ := sm2 h
      exact T_iret dX8_mark_23 ⟨rfl, rfl, rfl, rfl⟩
    · have h := it_neg hc h
      refine T_iload_n dX8_mark_14 rfl ?_
      refine T_gets0 dX8_mark_15 fs_X8_45 ?_
      refine T_slen0 dX8_mark_18 ?_
      refine T_icmp_lt (tgt := 24) dX8_mark_19 (by decide) (fun hc => ?_) (fun hc => ?_)
      · have h := it_pos hc h
        refine T_aload_n dX8_mark_24 rfl ?_
        refine T_iload_n dX8_mark_25 rfl ?_
        obtain ⟨hf_4, h⟩ := chk_some h
        obtain ⟨r_5, hc_6, h⟩ := bd1_some h
        refine T_cvi (as := [vI x2]) dX8_mark_26 cw_X3_is ml_X8_182 mi_X3_is se_X3_is (lyX3 hf_4) rfl (by decide) rfl (Nat.le_of_ble_eq_true rfl) (Nat.le_of_ble_eq_true rfl) (m_X3_is lw tl tt M q_3 x2 hf_4 _ hc_6) ?_
        refine T_if_eq (tgt := 44) dX8_mark_29 (by decide) (fun hc => ?_) (fun hc => ?_)
        · have h := it_pos hc h
          refine T_aload_n dX8_mark_44 rfl ?_
          refine T_iconst dX8_mark_45 ic_3 ?_
          obtain ⟨r_7, M_8, hc_9, h⟩ := bd2_some h
          refine T_cvi (as := [vI (nI 3)]) dX8_mark_46 cw_X8_found ml_X8_100 mi_X8_found se_X8_found lyC_0 rfl (by decide) rfl (Nat.le_of_ble_eq_true rfl) (Nat.le_of_ble_eq_true rfl) (m_X8_found lw tl tt M (nI 3)  _ _ hc_9) ?_
          obtain ⟨rfl, rfl⟩ := sm2 h
          exact T_iret dX8_mark_49 ⟨rfl, rfl, rfl, rfl⟩
        · have h := it_neg hc h
          refine T_aload_n dX8_mark_32 rfl ?_
          refine T_iload_n dX8_mark_33 rfl ?_
          refine T_aload_n dX8_mark_34 rfl ?_
          refine T_getR dX8_mark_35 clOK_X8 fl_X8_37 lyC_0 rfl rfl ?_
          obtain ⟨r_10, hc_11, h⟩ := bd1_some h
          refine T_cvi (as := [vI x2, vR (some 9)]) dX8_mark_38 cw_X3_tells ml_X8_185 mi_X3_tells se_X3_tells (lyX3 hf_4) rfl (by decide) rfl (Nat.le_of_ble_eq_true rfl) (Nat.le_of_ble_eq_true rfl) (m_X3_tells lw tl tt M q_3 x2 9 hf_4 rfl _ hc_11) ?_
          refine T_goto (tgt := 49) dX8_mark_41 (by decide) ?_
          obtain ⟨rfl, rfl⟩ := sm2 h
          exact T_iret dX8_mark_49 ⟨rfl, rfl, rfl, rfl⟩
      · have h := it_neg hc h
        refine T_iconst dX8_mark_22 ic_m1 ?_
        obtain ⟨rfl, rfl⟩ := sm2 h
        exact T_iret dX8_mark_23 ⟨rfl, rfl, rfl, rfl⟩
def F_X8_hole (M : Mem) (x1 : Int32) (x2 : Int32) : Option (Int32 × Mem) :=
 bd1 (F_X1_has M 9 x1) fun r_1 => if r_1 = 0 then some ((-1), M)
 else if x2 < 0 then some ((-1), M)
 else if x2 < (nI 5) then bd1 (F_X1_holeTold M 9 x1 x2) fun r_3 => bd2 (F_X8_tell M r_3) fun r_5 M_6 => some (r_5, M_6)
 else some ((-1), M)
set_option maxRecDepth 100000 in
set_option maxHeartbeats 4000000 in
theorem m_X8_hole (lw : Nat → Option Nat) (tl : Option Nat) (tt : Option Nat) (M : Mem) (x1 : Int32) (x2 : Int32) (r : Int32) (M' : Mem) (h : F_X8_hole M x1 x2 = some (r, M')) : Cal yX8_hole cX8_hole 3 (some .int) 0 4 0 0 false [vR (some 0), vI x1, vI x2] LAYC (rfs lw tl tt) M (eqp (vI r) LAYC (rfs lw tl tt) M') := by
  refine Cal.of (by decide +kernel) (Nat.le_of_ble_eq_true rfl) (fun h => by cases h) ?_
  unfold F_X8_hole at h
  show T RX8 cX8_hole 3 (some .int) 0 4 0 0 false (eqp (vI r) LAYC (rfs lw tl tt) M') 0 [aR (some 0), aI x1, aI x2] [] LAYC (rfs lw tl tt) M 0 0
  refine T_aload_n dX8_hole_0 rfl ?_
  refine T_getR dX8_hole_1 clOK_X8 fl_X8_37 lyC_0 rfl rfl ?_
  refine T_iload_n dX8_hole_4 rfl ?_
  obtain ⟨r_1, hc_2, h⟩ := bd1_some h
  refine T_cvi (as := [vI x1]) dX8_hole_5 cw_X1_has ml_X8_189 mi_X1_has se_X1_has lyC_9 rfl (by decide) rfl (Nat.le_of_ble_eq_true rfl) (Nat.le_of_ble_eq_true rfl) (m_X1_has lw tl tt M 9 x1 rfl _ hc_2) ?_
  refine T_if_eq (tgt := 20) dX8_hole_8 (by decide) (fun hc => ?_) (fun hc => ?_)
  · have h := it_pos hc h
    refine T_iconst dX8_hole_20 ic_m1 ?_
    obtain ⟨rfl, rfl⟩ := sm2 h
    exact T_iret dX8_hole_21 ⟨rfl, rfl, rfl, rfl⟩
  · have h := it_neg hc h
    refine T_iload_n dX8_hole_11 rfl ?_
    refine T_if_lt (tgt := 20) dX8_hole_12 (by decide) (fun hc => ?_) (fun hc => ?_)
    · have h := it_pos hc h
      refine T_iconst dX8_hole_20 ic_m1 ?_
      obtain ⟨rfl, rfl⟩ := sm2 h
      exact T_iret dX8_hole_21 ⟨rfl, rfl, rfl, rfl⟩
    · have h := it_neg hc h
      refine T_iload_n dX8_hole_15 rfl ?_
      refine T_iconst dX8_hole_16 ic_5 ?_
      refine T_icmp_lt (tgt := 22) dX8_hole_17 (by decide) (fun hc => ?_) (fun hc => ?_)
      · have h := it_pos hc h
        refine T_aload_n dX8_hole_22 rfl ?_
        refine T_aload_n dX8_hole_23 rfl ?_
        refine T_getR dX8_hole_24 clOK_X8 fl_X8_37 lyC_0 rfl rfl ?_
        refine T_iload_n dX8_hole_27 rfl ?_
        refine T_iload_n dX8_hole_28 rfl ?_
        obtain ⟨r_3, hc_4, h⟩ := bd1_some h
        refine T_cvi (as := [vI x1, vI x2]) dX8_hole_29 cw_X1_holeTold ml_X8_190 mi_X1_holeTold se_X1_holeTold lyC_9 rfl (by decide) rfl (Nat.le_of_ble_eq_true rfl) (Nat.le_of_ble_eq_true rfl) (m_X1_holeTold lw tl tt M 9 x1 x2 rfl _ hc_4) ?_
        obtain ⟨r_5, M_6, hc_7, h⟩ := bd2_some h
        refine T_cvi (as := [vI r_3]) dX8_hole_32 cw_X8_tell ml_X8_115 mi_X8_tell se_X8_tell lyC_0 rfl (by decide) rfl (Nat.le_of_ble_eq_true rfl) (Nat.le_of_ble_eq_true rfl) (m_X8_tell lw tl tt M r_3  _ _ hc_7) ?_
        obtain ⟨rfl, rfl⟩ := sm2 h
        exact T_iret dX8_hole_35 ⟨rfl, rfl, rfl, rfl⟩
      · have h := it_neg hc h
        refine T_iconst dX8_hole_20 ic_m1 ?_
        obtain ⟨rfl, rfl⟩ := sm2 h
        exact T_iret dX8_hole_21 ⟨rfl, rfl, rfl, rfl⟩
def F_X8_dig (M : Mem) (x1 : Int32) : Option (Int32 × Mem) :=
 bd1 (F_X2_has M x1) fun r_1 => if r_1 = 0 then some ((-1), M)
 else bd1 (F_X1_bears M 9 x1 1) fun r_3 => if r_3 = 0 then some ((-4), M)
 else bd1 (F_X0_areFull M) fun r_5 => if r_5 = 0 then bd1 (F_X0_perform M 9 (ish 1 x1) 1 1) fun M_7 => bd1 (F_X1_depthAt M_7 9 x1) fun r_9 => some (r_9, M_7)
 else some ((-2), M)
set_option maxRecDepth 100000 in
set_option maxHeartbeats 4000000 in
theorem m_X8_dig (lw : Nat → Option Nat) (tl : Option Nat) (tt : Option Nat) (M : Mem) (x1 : Int32) (r : Int32) (M' : Mem) (h : F_X8_dig M x1 = some (r, M')) : Cal yX8_dig cX8_dig 2 (some .int) 0 6 0 0 false [vR (some 0), vI x1] LAYC (rfs lw tl tt) M (eqp (vI r) LAYC (rfs lw tl tt) M') := by
  refine Cal.of (by decide +kernel) (Nat.le_of_ble_eq_true rfl) (fun h => by cases h) ?_
  unfold F_X8_dig at h
  show T RX8 cX8_dig 2 (some .int) 0 6 0 0 false (eqp (vI r) LAYC (rfs lw tl tt) M') 0 [aR (some 0), aI x1] [] LAYC (rfs lw tl tt) M 0 0
  refine T_aload_n dX8_dig_0 rfl ?_
  refine T_getR dX8_dig_1 clOK_X8 fl_X8_28 lyC_0 rfl rfl ?_
  refine T_iload_n dX8_dig_4 rfl ?_
  obtain ⟨r_1, hc_2, h⟩ := bd1_some h
  refine T_cvi (as := [vI x1]) dX8_dig_5 cw_X2_has ml_X8_167 mi_X2_has se_X2_has lyC_7 rfl (by decide) rfl (Nat.le_of_ble_eq_true rfl) (Nat.le_of_ble_eq_true rfl) (m_X2_has lw tl tt M x1  _ hc_2) ?_
  refine T_if_ne (tgt := 13) dX8_dig_8 (by decide) (fun hc => ?_) (fun hc => ?_)
  · have h := it_neg hc h
    refine T_aload_n dX8_dig_13 rfl ?_
    refine T_getR dX8_dig_14 clOK_X8 fl_X8_37 lyC_0 rfl rfl ?_
    refine T_iload_n dX8_dig_17 rfl ?_
    refine T_iconst dX8_dig_18 ic_1 ?_
    obtain ⟨r_3, hc_4, h⟩ := bd1_some h
    refine T_cvi (as := [vI x1, vI 1]) dX8_dig_19 cw_X1_bears ml_X8_193 mi_X1_bears se_X1_bears lyC_9 rfl (by decide) rfl (Nat.le_of_ble_eq_true rfl) (Nat.le_of_ble_eq_true rfl) (m_X1_bears lw tl tt M 9 x1 1 rfl _ hc_4) ?_
    refine T_if_ne (tgt := 28) dX8_dig_22 (by decide) (fun hc => ?_) (fun hc => ?_)
    · have h := it_neg hc h
      refine T_aload_n dX8_dig_28 rfl ?_
      refine T_getR dX8_dig_29 clOK_X8 fl_X8_61 lyC_0 rfl rfl ?_
      obtain ⟨r_5, hc_6, h⟩ := bd1_some h
      refine T_cvi (as := []) dX8_dig_32 cw_X0_areFull ml_X8_196 mi_X0_areFull se_X0_areFull lyC_15 rfl (by decide) rfl (Nat.le_of_ble_eq_true rfl) (Nat.le_of_ble_eq_true rfl) (m_X0_areFull lw tl tt M  _ hc_6) ?_
      refine T_if_eq (tgt := 41) dX8_dig_35 (by decide) (fun hc => ?_) (fun hc => ?_)
      · have h := it_pos hc h
        refine T_aload_n dX8_dig_41 rfl ?_
        refine T_getR dX8_dig_42 clOK_X8 fl_X8_61 lyC_0 rfl rfl ?_
        refine T_aload_n dX8_dig_45 rfl ?_
        refine T_getR dX8_dig_46 clOK_X8 fl_X8_37 lyC_0 rfl rfl ?_
        refine T_iconst dX8_dig_49 ic_1 ?_
        refine T_iload_n dX8_dig_50 rfl ?_
        refine T_ishl dX8_dig_51 ?_
        refine T_iconst dX8_dig_52 ic_1 ?_
        refine T_iconst dX8_dig_53 ic_1 ?_
        obtain ⟨M_7, hc_8, h⟩ := bd1_some h
        refine T_cvv (as := [vR (some 9), vI (ish 1 x1), vI 1, vI 1]) dX8_dig_54 cw_X0_perform ml_X8_199 mi_X0_perform se_X0_perform lyC_15 rfl (by decide) rfl (Nat.le_of_ble_eq_true rfl) (Nat.le_of_ble_eq_true rfl) (m_X0_perform lw tl tt M 9 (ish 1 x1) 1 1 rfl _ hc_8) ?_
        refine T_aload_n dX8_dig_57 rfl ?_
        refine T_getR dX8_dig_58 clOK_X8 fl_X8_37 lyC_0 rfl rfl ?_
        refine T_iload_n dX8_dig_61 rfl ?_
        obtain ⟨r_9, hc_10, h⟩ := bd1_some h
        refine T_cvi (as := [vI x1]) dX8_dig_62 cw_X1_depthAt ml_X8_203 mi_X1_depthAt se_X1_depthAt lyC_9 rfl (by decide) rfl (Nat.le_of_ble_eq_true rfl) (Nat.le_of_ble_eq_true rfl) (m_X1_depthAt lw tl tt M_7 9 x1 rfl _ hc_10) ?_
        obtain ⟨rfl, rfl⟩ := sm2 h
        exact T_iret dX8_dig_65 ⟨rfl, rfl, rfl, rfl⟩
      · have h := it_neg hc h
        refine T_bipush dX8_dig_38 bp_m2 ?_
        obtain ⟨rfl, rfl⟩ := sm2 h
        exact T_iret dX8_dig_40 ⟨rfl, rfl, rfl, rfl⟩
    · have h := it_pos hc h
      refine T_bipush dX8_dig_25 bp_m4 ?_
      obtain ⟨rfl, rfl⟩ := sm2 h
      exact T_iret dX8_dig_27 ⟨rfl, rfl, rfl, rfl⟩
  · have h := it_pos hc h
    refine T_iconst dX8_dig_11 ic_m1 ?_
    obtain ⟨rfl, rfl⟩ := sm2 h
    exact T_iret dX8_dig_12 ⟨rfl, rfl, rfl, rfl⟩
