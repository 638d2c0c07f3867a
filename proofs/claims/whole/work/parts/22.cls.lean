def F_X2_gardenOf (M : Mem) (x1 : Int32) : Option (Int32) :=
 if x1 < 0 then some 0
 else if (nI 4) ≤ x1 then some 0
 else chk (inb x1 4 = true) (some (gI M 8 x1.toNatClampNeg))
set_option maxRecDepth 100000 in
set_option maxHeartbeats 4000000 in
theorem m_X2_gardenOf (lw : Nat → Option Nat) (tl : Option Nat) (tt : Option Nat) (M : Mem) (x1 : Int32) (r : Int32) (h : F_X2_gardenOf M x1 = some r) : Cal yX2_gardenOf cX2_gardenOf 2 (some .int) 0 1 0 0 false [vR (some 7), vI x1] LAYC (rfs lw tl tt) M (eqp (vI r) LAYC (rfs lw tl tt) M) := by
  refine Cal.of (by decide +kernel) (Nat.le_of_ble_eq_true rfl) (fun h => by cases h) ?_
  unfold F_X2_gardenOf at h
  show T RX2 cX2_gardenOf 2 (some .int) 0 1 0 0 false (eqp (vI r) LAYC (rfs lw tl tt) M) 0 [aR (some 7), aI x1] [] LAYC (rfs lw tl tt) M 0 0
  refine T_iload_n dX2_gardenOf_0 rfl ?_
  refine T_if_lt (tgt := 22) dX2_gardenOf_1 (by decide) (fun hc => ?_) (fun hc => ?_)
  · have h := it_pos hc h
    refine T_iconst dX2_gardenOf_22 ic_0 ?_
    obtain rfl := sm1 h
    exact T_iret dX2_gardenOf_23 ⟨rfl, rfl, rfl, rfl⟩
  · have h := it_neg hc h
    refine T_iload_n dX2_gardenOf_4 rfl ?_
    refine T_aload_n dX2_gardenOf_5 rfl ?_
    refine T_getR dX2_gardenOf_6 clOK_X2 fl_X2_9 lyC_7 rfl rfl ?_
    refine T_alen dX2_gardenOf_9 lyC_8 (Or.inl rfl) rfl ?_
    refine T_icmp_ge (tgt := 22) dX2_gardenOf_10 (by decide) (fun hc => ?_) (fun hc => ?_)
    · have h := it_pos hc h
      refine T_iconst dX2_gardenOf_22 ic_0 ?_
      obtain rfl := sm1 h
      exact T_iret dX2_gardenOf_23 ⟨rfl, rfl, rfl, rfl⟩
    · have h := it_neg hc h
      refine T_aload_n dX2_gardenOf_13 rfl ?_
      refine T_getR dX2_gardenOf_14 clOK_X2 fl_X2_9 lyC_7 rfl rfl ?_
      refine T_iload_n dX2_gardenOf_17 rfl ?_
      obtain ⟨hi_1, h⟩ := chk_some h
      refine T_iald dX2_gardenOf_18 lyC_8 (inb_in hi_1) ?_
      refine T_goto (tgt := 23) dX2_gardenOf_19 (by decide) ?_
      obtain rfl := sm1 h
      exact T_iret dX2_gardenOf_23 ⟨rfl, rfl, rfl, rfl⟩
def F_X2_gardenerAt (M : Mem) (x1 : Int32) : Option (Int32) :=
 bd1 (F_X2_has M x1) fun r_1 => if r_1 = 0 then some (-9)
 else bd1 (F_X2_ownerOf M (ish 1 x1)) fun r_3 => some r_3
set_option maxRecDepth 100000 in
set_option maxHeartbeats 4000000 in
theorem m_X2_gardenerAt (lw : Nat → Option Nat) (tl : Option Nat) (tt : Option Nat) (M : Mem) (x1 : Int32) (r : Int32) (h : F_X2_gardenerAt M x1 = some r) : Cal yX2_gardenerAt cX2_gardenerAt 2 (some .int) 0 3 0 0 false [vR (some 7), vI x1] LAYC (rfs lw tl tt) M (eqp (vI r) LAYC (rfs lw tl tt) M) := by
  refine Cal.of (by decide +kernel) (Nat.le_of_ble_eq_true rfl) (fun h => by cases h) ?_
  unfold F_X2_gardenerAt at h
  show T RX2 cX2_gardenerAt 2 (some .int) 0 3 0 0 false (eqp (vI r) LAYC (rfs lw tl tt) M) 0 [aR (some 7), aI x1] [] LAYC (rfs lw tl tt) M 0 0
  refine T_aload_n dX2_gardenerAt_0 rfl ?_
  refine T_iload_n dX2_gardenerAt_1 rfl ?_
  obtain ⟨r_1, hc_2, h⟩ := bd1_some h
  refine T_cvi (as := [vI x1]) dX2_gardenerAt_2 cw_X2_has ml_X2_41 mi_X2_has se_X2_has lyC_7 rfl (by decide) rfl (Nat.le_of_ble_eq_true rfl) (Nat.le_of_ble_eq_true rfl) (m_X2_has lw tl tt M x1  _ hc_2) ?_
  refine T_if_eq (tgt := 18) dX2_gardenerAt_5 (by decide) (fun hc => ?_) (fun hc => ?_)
  · have h := it_pos hc h
    refine T_bipush dX2_gardenerAt_18 bp_m9 ?_
    obtain rfl := sm1 h
    exact T_iret dX2_gardenerAt_20 ⟨rfl, rfl, rfl, rfl⟩
  · have h := it_neg hc h
    refine T_aload_n dX2_gardenerAt_8 rfl ?_
    refine T_iconst dX2_gardenerAt_9 ic_1 ?_
    refine T_iload_n dX2_gardenerAt_10 rfl ?_
    refine T_ishl dX2_gardenerAt_11 ?_
    obtain ⟨r_3, hc_4, h⟩ := bd1_some h
    refine T_cvi (as := [vI (ish 1 x1)]) dX2_gardenerAt_12 cw_X2_ownerOf ml_X2_45 mi_X2_ownerOf se_X2_ownerOf lyC_7 rfl (by decide) rfl (Nat.le_of_ble_eq_true rfl) (Nat.le_of_ble_eq_true rfl) (m_X2_ownerOf lw tl tt M (ish 1 x1)  _ hc_4) ?_
    refine T_goto (tgt := 20) dX2_gardenerAt_15 (by decide) ?_
    obtain rfl := sm1 h
    exact T_iret dX2_gardenerAt_20 ⟨rfl, rfl, rfl, rfl⟩
def F_X2_isParted (M : Mem) (x1 : Int32) : Option (Int32) :=
 bd1 (F_X2_hangingWith M (x1 &&& (-x1)) x1) fun r_1 => if r_1 = x1 then some 0
 else some 1
set_option maxRecDepth 100000 in
set_option maxHeartbeats 4000000 in
theorem m_X2_isParted (lw : Nat → Option Nat) (tl : Option Nat) (tt : Option Nat) (M : Mem) (x1 : Int32) (r : Int32) (h : F_X2_isParted M x1 = some r) : Cal yX2_isParted cX2_isParted 2 (some .boolean) 0 3 0 0 false [vR (some 7), vI x1] LAYC (rfs lw tl tt) M (eqp (vI r) LAYC (rfs lw tl tt) M) := by
  refine Cal.of (by decide +kernel) (Nat.le_of_ble_eq_true rfl) (fun h => by cases h) ?_
  unfold F_X2_isParted at h
  show T RX2 cX2_isParted 2 (some .boolean) 0 3 0 0 false (eqp (vI r) LAYC (rfs lw tl tt) M) 0 [aR (some 7), aI x1] [] LAYC (rfs lw tl tt) M 0 0
  refine T_aload_n dX2_isParted_0 rfl ?_
  refine T_iload_n dX2_isParted_1 rfl ?_
  refine T_iload_n dX2_isParted_2 rfl ?_
  refine T_ineg dX2_isParted_3 ?_
  refine T_iand dX2_isParted_4 ?_
  refine T_iload_n dX2_isParted_5 rfl ?_
  obtain ⟨r_1, hc_2, h⟩ := bd1_some h
  refine T_cvi (as := [vI (x1 &&& (-x1)), vI x1]) dX2_isParted_6 cw_X2_hangingWith ml_X2_56 mi_X2_hangingWith se_X2_hangingWith lyC_7 rfl (by decide) rfl (Nat.le_of_ble_eq_true rfl) (Nat.le_of_ble_eq_true rfl) (m_X2_hangingWith lw tl tt M (x1 &&& (-x1)) x1  _ hc_2) ?_
  refine T_iload_n dX2_isParted_9 rfl ?_
  refine T_icmp_eq (tgt := 17) dX2_isParted_10 (by decide) (fun hc => ?_) (fun hc => ?_)
  · have h := it_pos hc h
    refine T_iconst dX2_isParted_17 ic_0 ?_
    obtain rfl := sm1 h
    exact T_zret dX2_isParted_18 (Or.inl rfl) ⟨rfl, rfl, rfl, rfl⟩
  · have h := it_neg hc h
    refine T_iconst dX2_isParted_13 ic_1 ?_
    refine T_goto (tgt := 18) dX2_isParted_14 (by decide) ?_
    obtain rfl := sm1 h
    exact T_zret dX2_isParted_18 (Or.inr rfl) ⟨rfl, rfl, rfl, rfl⟩
def X2_canPush_L29 (M : Mem) (x1 : Int32) (x2 : Int32) (x3 : Int32) : Int32 → Option ((Int32) ⊕ (Int32))
  | x4 =>
    if (gI M 7 0) ≤ x4 then some (.inr 1)
    else if (gI M 7 1) ≤ 0 then some (.inr 1)
    else chk (¬ (gI M 7 1) = 0) (lett ((irm x4 (gI M 7 1)) + x2) fun x_6 => lett ((x4 + (x3 * (gI M 7 1))) + x2) fun x_8 => if ((ius x1 x4) &&& 1) = 0 then lett (x4 + 1) fun x_10 => some (.inl x_10)
    else if x_6 < 0 then some (.inr 0)
    else if (gI M 7 1) ≤ x_6 then some (.inr 0)
    else bd1 (F_X2_has M x_8) fun r_12 => if r_12 = 0 then some (.inr 0)
    else lett (x4 + 1) fun x_14 => some (.inl x_14))
def F_X2_canPush (M : Mem) (x1 : Int32) (x2 : Int32) (x3 : Int32) : Option (Int32) :=
 bd1 (F_J9_abs_067f4 x2.toInt64) fun r_1 => if 0 ≤ (lg_cmp r_1 4) then some 0
 else bd1 (F_J9_abs_067f4 x3.toInt64) fun r_3 => if (lg_cmp r_3 4) < 0 then loop (X2_canPush_L29 M x1 x2 x3) FU 0
 else some 0
set_option maxRecDepth 100000 in
set_option maxHeartbeats 4000000 in
theorem s_X2_canPush_L29 (lw : Nat → Option Nat) (tl : Option Nat) (tt : Option Nat) (M : Mem) (x1 : Int32) (x2 : Int32) (x3 : Int32) (x4 : Int32) {Po : Po_} (x : (Int32) ⊕ (Int32)) (h : X2_canPush_L29 M x1 x2 x3 x4 = some x) (hI : ∀ (ix4 : Int32), x = .inl ix4 → T RX2 cX2_canPush 7 (some .boolean) 0 2 0 0 false Po 29 [aR (some 7), aI x1, aI x2, aI x3, aI ix4, aU, aU] [] LAYC (rfs lw tl tt) M 0 0) (hE0 : ∀ (er : Int32), x = .inr er → Po (vI er) LAYC (rfs lw tl tt) M) : T RX2 cX2_canPush 7 (some .boolean) 0 2 0 0 false Po 29 [aR (some 7), aI x1, aI x2, aI x3, aI x4, aU, aU] [] LAYC (rfs lw tl tt) M 0 0 := by
  unfold X2_canPush_L29 at h
  simp only at h
  refine T_iload dX2_canPush_29 rfl ?_
  refine T_aload_n dX2_canPush_31 rfl ?_
  refine T_getI dX2_canPush_32 clOK_X2 fl_X2_25 lyC_7 rfl ?_
  refine T_icmp_ge (tgt := 109) dX2_canPush_35 (by decide) (fun hc => ?_) (fun hc => ?_)
  · have h := it_pos hc h
    refine T_iconst dX2_canPush_109 ic_1 ?_
    obtain rfl := sm1 h
    exact T_zret dX2_canPush_110 (Or.inr rfl) (hE0 _ rfl)
  · have h := it_neg hc h
    refine T_aload_n dX2_canPush_38 rfl ?_
    refine T_getI dX2_canPush_39 clOK_X2 fl_X2_21 lyC_7 rfl ?_
    refine T_if_le (tgt := 109) dX2_canPush_42 (by decide) (fun hc => ?_) (fun hc => ?_)
    · have h := it_pos hc h
      refine T_iconst dX2_canPush_109 ic_1 ?_
      obtain rfl := sm1 h
      exact T_zret dX2_canPush_110 (Or.inr rfl) (hE0 _ rfl)
    · have h := it_neg hc h
      refine T_iload dX2_canPush_45 rfl ?_
      refine T_aload_n dX2_canPush_47 rfl ?_
      refine T_getI dX2_canPush_48 clOK_X2 fl_X2_21 lyC_7 rfl ?_
      obtain ⟨hz_5, h⟩ := chk_some h
      refine T_irem dX2_canPush_51 hz_5 ?_
      refine T_iload_n dX2_canPush_52 rfl ?_
      refine T_iadd dX2_canPush_53 ?_
      obtain ⟨x_6, ex_7, h⟩ := lett_some h
      refine T_topI ex_7 ?_
      refine T_istore (i := 5) (L' := [aR (some 7), aI x1, aI x2, aI x3, aI x4, aI x_6, aU]) dX2_canPush_54 (Nat.le_of_ble_eq_true rfl) rfl ?_
      refine T_iload dX2_canPush_56 rfl ?_
      refine T_iload_n dX2_canPush_58 rfl ?_
      refine T_aload_n dX2_canPush_59 rfl ?_
      refine T_getI dX2_canPush_60 clOK_X2 fl_X2_21 lyC_7 rfl ?_
      refine T_imul dX2_canPush_63 ?_
      refine T_iadd dX2_canPush_64 ?_
      refine T_iload_n dX2_canPush_65 rfl ?_
      refine T_iadd dX2_canPush_66 ?_
      obtain ⟨x_8, ex_9, h⟩ := lett_some h
      refine T_topI ex_9 ?_
      refine T_istore (i := 6) (L' := [aR (some 7), aI x1, aI x2, aI x3, aI x4, aI x_6, aI x_8]) dX2_canPush_67 (Nat.le_of_ble_eq_true rfl) rfl ?_
      refine T_iload_n dX2_canPush_69 rfl ?_
      refine T_iload dX2_canPush_70 rfl ?_
      refine T_iushr dX2_canPush_72 ?_
      refine T_iconst dX2_canPush_73 ic_1 ?_
      refine T_iand dX2_canPush_74 ?_
      refine T_if_eq (tgt := 103) dX2_canPush_75 (by decide) (fun hc => ?_) (fun hc => ?_)
      · have h := it_pos hc h
        obtain ⟨x_10, ex_11, h⟩ := lett_some h
        refine T_iinc (L' := [aR (some 7), aI x1, aI x2, aI x3, aI x_10, aI x_6, aI x_8]) dX2_canPush_103 rfl (ic_inc ic_1 ex_11) (Nat.le_of_ble_eq_true rfl) rfl ?_
        refine T_goto (tgt := 29) dX2_canPush_106 (by decide) ?_
        obtain rfl := sm1 h
        refine T_mask [true, true, true, true, true, false, false] rfl ?_
        exact hI _ rfl
      · have h := it_neg hc h
        refine T_iload dX2_canPush_78 rfl ?_
        refine T_if_lt (tgt := 101) dX2_canPush_80 (by decide) (fun hc => ?_) (fun hc => ?_)
        · have h := it_pos hc h
          refine T_iconst dX2_canPush_101 ic_0 ?_
          obtain rfl := sm1 h
          exact T_zret dX2_canPush_102 (Or.inl rfl) (hE0 _ rfl)
        · have h := it_neg hc h
          refine T_iload dX2_canPush_83 rfl ?_
          refine T_aload_n dX2_canPush_85 rfl ?_
          refine T_getI dX2_canPush_86 clOK_X2 fl_X2_21 lyC_7 rfl ?_
          refine T_icmp_ge (tgt := 101) dX2_canPush_89 (by decide) (fun hc => ?_) (fun hc => ?_)
          · have h := it_pos hc h
            refine T_iconst dX2_canPush_101 ic_0 ?_
            obtain rfl := sm1 h
            exact T_zret dX2_canPush_102 (Or.inl rfl) (hE0 _ rfl)
          · have h := it_neg hc h
            refine T_aload_n dX2_canPush_92 rfl ?_
            refine T_iload dX2_canPush_93 rfl ?_
            obtain ⟨r_12, hc_13, h⟩ := bd1_some h
            refine T_cvi (as := [vI x_8]) dX2_canPush_95 cw_X2_has ml_X2_41 mi_X2_has se_X2_has lyC_7 rfl (by decide) rfl (Nat.le_of_ble_eq_true rfl) (Nat.le_of_ble_eq_true rfl) (m_X2_has lw tl tt M x_8  _ hc_13) ?_
            refine T_if_ne (tgt := 103) dX2_canPush_98 (by decide) (fun hc => ?_) (fun hc => ?_)
            · have h := it_neg hc h
              obtain ⟨x_14, ex_15, h⟩ := lett_some h
              refine T_iinc (L' := [aR (some 7), aI x1, aI x2, aI x3, aI x_14, aI x_6, aI x_8]) dX2_canPush_103 rfl (ic_inc ic_1 ex_15) (Nat.le_of_ble_eq_true rfl) rfl ?_
              refine T_goto (tgt := 29) dX2_canPush_106 (by decide) ?_
              obtain rfl := sm1 h
              refine T_mask [true, true, true, true, true, false, false] rfl ?_
              exact hI _ rfl
            · have h := it_pos hc h
              refine T_iconst dX2_canPush_101 ic_0 ?_
              obtain rfl := sm1 h
              exact T_zret dX2_canPush_102 (Or.inl rfl) (hE0 _ rfl)
set_option maxRecDepth 100000 in
set_option maxHeartbeats 4000000 in
theorem l_X2_canPush_L29 (lw : Nat → Option Nat) (tl : Option Nat) (tt : Option Nat) (M : Mem) (x1 : Int32) (x2 : Int32) (x3 : Int32) {Po : Po_} (er : Int32) : ∀ (k : Nat) (x4 : Int32), loop (X2_canPush_L29 M x1 x2 x3) k x4 = some er → (Po (vI er) LAYC (rfs lw tl tt) M) → T RX2 cX2_canPush 7 (some .boolean) 0 2 0 0 false Po 29 [aR (some 7), aI x1, aI x2, aI x3, aI x4, aU, aU] [] LAYC (rfs lw tl tt) M 0 0 := by
  intro k
  induction k with
  | zero => intro x4 h; cases h
  | succ k ih =>
    intro x4 h hE
    obtain ⟨x, hx, hx1, hx2⟩ := loop_succ h
    exact s_X2_canPush_L29  lw tl tt M x1 x2 x3  x4 x hx (fun q0 e => ih q0 (hx1 _ e) hE) (fun q0 e => by cases hx2 _ e; exact hE)
set_option maxRecDepth 100000 in
set_option maxHeartbeats 4000000 in
theorem m_X2_canPush (lw : Nat → Option Nat) (tl : Option Nat) (tt : Option Nat) (M : Mem) (x1 : Int32) (x2 : Int32) (x3 : Int32) (r : Int32) (h : F_X2_canPush M x1 x2 x3 = some r) : Cal yX2_canPush cX2_canPush 7 (some .boolean) 0 2 0 0 false [vR (some 7), vI x1, vI x2, vI x3] LAYC (rfs lw tl tt) M (eqp (vI r) LAYC (rfs lw tl tt) M) := by
  refine Cal.of (by decide +kernel) (Nat.le_of_ble_eq_true rfl) (fun h => by cases h) ?_
  unfold F_X2_canPush at h
  show T RX2 cX2_canPush 7 (some .boolean) 0 2 0 0 false (eqp (vI r) LAYC (rfs lw tl tt) M) 0 [aR (some 7), aI x1, aI x2, aI x3, aU, aU, aU] [] LAYC (rfs lw tl tt) M 0 0
  refine T_iload_n dX2_canPush_0 rfl ?_
  refine T_i2l dX2_canPush_1 ?_
  obtain ⟨r_1, hc_2, h⟩ := bd1_some h
  refine T_csl (as := [vJ x2.toInt64]) dX2_canPush_2 cw_J9_abs_067f4 ml_X2_60 mt_J9_abs_067f4 rfl (Nat.le_of_ble_eq_true rfl) (Nat.le_of_ble_eq_true rfl) (m_J9_abs_067f4 LAYC (rfs lw tl tt) M x2.toInt64  _ hc_2) ?_
  refine T_ldc2 dX2_canPush_5 kl_X2_66 ?_
  refine T_lcmp dX2_canPush_8 ?_
  refine T_if_ge (tgt := 24) dX2_canPush_9 (by decide) (fun hc => ?_) (fun hc => ?_)
  · have h := it_pos hc h
    refine T_iconst dX2_canPush_24 ic_0 ?_
    obtain rfl := sm1 h
    exact T_zret dX2_canPush_25 (Or.inl rfl) ⟨rfl, rfl, rfl, rfl⟩
  · have h := it_neg hc h
    refine T_iload_n dX2_canPush_12 rfl ?_
    refine T_i2l dX2_canPush_13 ?_
    obtain ⟨r_3, hc_4, h⟩ := bd1_some h
    refine T_csl (as := [vJ x3.toInt64]) dX2_canPush_14 cw_J9_abs_067f4 ml_X2_60 mt_J9_abs_067f4 rfl (Nat.le_of_ble_eq_true rfl) (Nat.le_of_ble_eq_true rfl) (m_J9_abs_067f4 LAYC (rfs lw tl tt) M x3.toInt64  _ hc_4) ?_
    refine T_ldc2 dX2_canPush_17 kl_X2_66 ?_
    refine T_lcmp dX2_canPush_20 ?_
    refine T_if_lt (tgt := 26) dX2_canPush_21 (by decide) (fun hc => ?_) (fun hc => ?_)
    · have h := it_pos hc h
      refine T_iconst dX2_canPush_26 ic_0 ?_
      refine T_istore (i := 4) (L' := [aR (some 7), aI x1, aI x2, aI x3, aI 0, aU, aU]) dX2_canPush_27 (Nat.le_of_ble_eq_true rfl) rfl ?_
      exact l_X2_canPush_L29  lw tl tt M x1 x2 x3  _ FU 0 h ⟨rfl, rfl, rfl, rfl⟩
    · have h := it_neg hc h
      refine T_iconst dX2_canPush_24 ic_0 ?_
      obtain rfl := sm1 h
      exact T_zret dX2_canPush_25 (Or.inl rfl) ⟨rfl, rfl, rfl, rfl⟩
def X2_onBoard_L14 (M : Mem) (x1 : Int32) (x2 : Int32) : Int32 × Int32 → Option ((Int32 × Int32) ⊕ (Int32))
  | (x3, x4) =>
    if (nI 4) ≤ x4 then some (.inr x3)
    else lett (x3 ||| (ish ((ius x1 (x4 * (gI M 7 1))) &&& x2) (x4 * (nI 4)))) fun x_3 => lett (x4 + 1) fun x_5 => some (.inl (x_3, x_5))
def F_X2_onBoard (M : Mem) (x1 : Int32) : Option (Int32) :=
 lett ((ish 1 (gI M 7 1)) - 1) fun x_1 => loop (X2_onBoard_L14 M x1 x_1) FU (0, 0)
set_option maxRecDepth 100000 in
set_option maxHeartbeats 4000000 in
theorem s_X2_onBoard_L14 (lw : Nat → Option Nat) (tl : Option Nat) (tt : Option Nat) (M : Mem) (x1 : Int32) (x2 : Int32) (x3 : Int32) (x4 : Int32) {Po : Po_} (x : (Int32 × Int32) ⊕ (Int32)) (h : X2_onBoard_L14 M x1 x2 (x3, x4) = some x) (hI : ∀ (ix3 : Int32) (ix4 : Int32), x = .inl (ix3, ix4) → T RX2 cX2_onBoard 5 (some .int) 0 1 0 0 false Po 14 [aR (some 7), aI x1, aI x2, aI ix3, aI ix4] [] LAYC (rfs lw tl tt) M 0 0) (hE0 : ∀ (er : Int32), x = .inr er → Po (vI er) LAYC (rfs lw tl tt) M) : T RX2 cX2_onBoard 5 (some .int) 0 1 0 0 false Po 14 [aR (some 7), aI x1, aI x2, aI x3, aI x4] [] LAYC (rfs lw tl tt) M 0 0 := by
  unfold X2_onBoard_L14 at h
  simp only at h
  refine T_iload dX2_onBoard_14 rfl ?_
  refine T_iconst dX2_onBoard_16 ic_4 ?_
  refine T_icmp_ge (tgt := 45) dX2_onBoard_17 (by decide) (fun hc => ?_) (fun hc => ?_)
  · have h := it_pos hc h
    refine T_iload_n dX2_onBoard_45 rfl ?_
    obtain rfl := sm1 h
    exact T_iret dX2_onBoard_46 (hE0 _ rfl)
  · have h := it_neg hc h
    refine T_iload_n dX2_onBoard_20 rfl ?_
    refine T_iload_n dX2_onBoard_21 rfl ?_
    refine T_iload dX2_onBoard_22 rfl ?_
    refine T_aload_n dX2_onBoard_24 rfl ?_
    refine T_getI dX2_onBoard_25 clOK_X2 fl_X2_21 lyC_7 rfl ?_
    refine T_imul dX2_onBoard_28 ?_
    refine T_iushr dX2_onBoard_29 ?_
    refine T_iload_n dX2_onBoard_30 rfl ?_
    refine T_iand dX2_onBoard_31 ?_
    refine T_iload dX2_onBoard_32 rfl ?_
    refine T_iconst dX2_onBoard_34 ic_4 ?_
    refine T_imul dX2_onBoard_35 ?_
    refine T_ishl dX2_onBoard_36 ?_
    refine T_ior dX2_onBoard_37 ?_
    obtain ⟨x_3, ex_4, h⟩ := lett_some h
    refine T_topI ex_4 ?_
    refine T_istore_n (i := 3) (L' := [aR (some 7), aI x1, aI x2, aI x_3, aI x4]) dX2_onBoard_38 rfl (Nat.le_of_ble_eq_true rfl) rfl ?_
    obtain ⟨x_5, ex_6, h⟩ := lett_some h
    refine T_iinc (L' := [aR (some 7), aI x1, aI x2, aI x_3, aI x_5]) dX2_onBoard_39 rfl (ic_inc ic_1 ex_6) (Nat.le_of_ble_eq_true rfl) rfl ?_
    refine T_goto (tgt := 14) dX2_onBoard_42 (by decide) ?_
    obtain rfl := sm1 h
    exact hI _ _ rfl
set_option maxRecDepth 100000 in
set_option maxHeartbeats 4000000 in
theorem l_X2_onBoard_L14 (lw : Nat → Option Nat) (tl : Option Nat) (tt : Option Nat) (M : Mem) (x1 : Int32) (x2 : Int32) {Po : Po_} (er : Int32) : ∀ (k : Nat) (x3 : Int32) (x4 : Int32), loop (X2_onBoard_L14 M x1 x2) k (x3, x4) = some er → (Po (vI er) LAYC (rfs lw tl tt) M) → T RX2 cX2_onBoard 5 (some .int) 0 1 0 0 false Po 14 [aR (some 7), aI x1, aI x2, aI x3, aI x4] [] LAYC (rfs lw tl tt) M 0 0 := by
  intro k
  induction k with
  | zero => intro x3 x4 h; cases h
  | succ k ih =>
    intro x3 x4 h hE
    obtain ⟨x, hx, hx1, hx2⟩ := loop_succ h
    exact s_X2_onBoard_L14  lw tl tt M x1 x2  x3 x4 x hx (fun q0 q1 e => ih q0 q1 (hx1 _ e) hE) (fun q0 e => by cases hx2 _ e; exact hE)
set_option maxRecDepth 100000 in
set_option maxHeartbeats 4000000 in
theorem m_X2_onBoard (lw : Nat → Option Nat) (tl : Option Nat) (tt : Option Nat) (M : Mem) (x1 : Int32) (r : Int32) (h : F_X2_onBoard M x1 = some r) : Cal yX2_onBoard cX2_onBoard 5 (some .int) 0 1 0 0 false [vR (some 7), vI x1] LAYC (rfs lw tl tt) M (eqp (vI r) LAYC (rfs lw tl tt) M) := by
  refine Cal.of (by decide +kernel) (Nat.le_of_ble_eq_true rfl) (fun h => by cases h) ?_
  unfold F_X2_onBoard at h
  show T RX2 cX2_onBoard 5 (some .int) 0 1 0 0 false (eqp (vI r) LAYC (rfs lw tl tt) M) 0 [aR (some 7), aI x1, aU, aU, aU] [] LAYC (rfs lw tl tt) M 0 0
  refine T_iconst dX2_onBoard_0 ic_1 ?_
  refine T_aload_n dX2_onBoard_1 rfl ?_
  refine T_getI dX2_onBoard_2 clOK_X2 fl_X2_21 lyC_7 rfl ?_
  refine T_ishl dX2_onBoard_5 ?_
  refine T_iconst dX2_onBoard_6 ic_1 ?_
  refine T_isub dX2_onBoard_7 ?_
  obtain ⟨x_1, ex_2, h⟩ := lett_some h
  refine T_topI ex_2 ?_
  refine T_istore_n (i := 2) (L' := [aR (some 7), aI x1, aI x_1, aU, aU]) dX2_onBoard_8 rfl (Nat.le_of_ble_eq_true rfl) rfl ?_
  refine T_iconst dX2_onBoard_9 ic_0 ?_
  refine T_istore_n (i := 3) (L' := [aR (some 7), aI x1, aI x_1, aI 0, aU]) dX2_onBoard_10 rfl (Nat.le_of_ble_eq_true rfl) rfl ?_
  refine T_iconst dX2_onBoard_11 ic_0 ?_
  refine T_istore (i := 4) (L' := [aR (some 7), aI x1, aI x_1, aI 0, aI 0]) dX2_onBoard_12 (Nat.le_of_ble_eq_true rfl) rfl ?_
  exact l_X2_onBoard_L14  lw tl tt M x1 x_1  _ FU 0 0 h ⟨rfl, rfl, rfl, rfl⟩
def X2_cornered_L4 : Int32 × Int32 → Option ((Int32 × Int32) ⊕ (Int32))
  | (x1, x2) =>
    if (nI 4) ≤ x2 then some (.inr x1)
    else if (x1 &&& (nI 15)) = 0 then lett (ius x1 (nI 4)) fun x_1 => lett (x2 + 1) fun x_3 => some (.inl (x_1, x_3))
    else some (.inr x1)
def X2_cornered_L28 : Int32 × Int32 → Option ((Int32 × Int32) ⊕ (Int32))
  | (x1, x2) =>
    if (nI 4) ≤ x2 then some (.inr x1)
    else if (x1 &&& (nI 4369)) = 0 then lett (ius x1 1) fun x_6 => lett (x2 + 1) fun x_8 => some (.inl (x_6, x_8))
    else some (.inr x1)
def F_X2_cornered (x0 : Int32) : Option (Int32) :=
 bd1 (loop (X2_cornered_L4 ) FU (x0, 0)) fun x_5 => loop (X2_cornered_L28 ) FU (x_5, 0)
set_option maxRecDepth 100000 in
set_option maxHeartbeats 4000000 in
theorem s_X2_cornered_L4 (lw : Nat → Option Nat) (tl : Option Nat) (tt : Option Nat) (M : Mem) (x1 : Int32) (x2 : Int32) {Po : Po_} (x : (Int32 × Int32) ⊕ (Int32)) (h : X2_cornered_L4  (x1, x2) = some x) (hI : ∀ (ix1 : Int32) (ix2 : Int32), x = .inl (ix1, ix2) → T RX2 cX2_cornered 3 (some .int) 0 1 0 0 false Po 4 [aU, aI ix1, aI ix2] [] LAYC (rfs lw tl tt) M 0 0) (hE0 : ∀ (e1 : Int32), x = .inr e1 → T RX2 cX2_cornered 3 (some .int) 0 1 0 0 false Po 26 [aU, aI e1, aU] [] LAYC (rfs lw tl tt) M 0 0) : T RX2 cX2_cornered 3 (some .int) 0 1 0 0 false Po 4 [aU, aI x1, aI x2] [] LAYC (rfs lw tl tt) M 0 0 := by
  unfold X2_cornered_L4 at h
  simp only at h
  refine T_iload_n dX2_cornered_4 rfl ?_
  refine T_iconst dX2_cornered_5 ic_4 ?_
  refine T_icmp_ge (tgt := 26) dX2_cornered_6 (by decide) (fun hc => ?_) (fun hc => ?_)
  · have h := it_pos hc h
    obtain rfl := sm1 h
    refine T_mask [true, true, false] rfl ?_
    exact hE0 _ rfl
  · have h := it_neg hc h
    refine T_iload_n dX2_cornered_9 rfl ?_
    refine T_bipush dX2_cornered_10 bp_15 ?_
    refine T_iand dX2_cornered_12 ?_
    refine T_if_ne (tgt := 26) dX2_cornered_13 (by decide) (fun hc => ?_) (fun hc => ?_)
    · have h := it_neg hc h
      obtain rfl := sm1 h
      refine T_mask [true, true, false] rfl ?_
      exact hE0 _ rfl
    · have h := it_pos hc h
      refine T_iload_n dX2_cornered_16 rfl ?_
      refine T_iconst dX2_cornered_17 ic_4 ?_
      refine T_iushr dX2_cornered_18 ?_
      obtain ⟨x_1, ex_2, h⟩ := lett_some h
      refine T_topI ex_2 ?_
      refine T_istore_n (i := 1) (L' := [aU, aI x_1, aI x2]) dX2_cornered_19 rfl (Nat.le_of_ble_eq_true rfl) rfl ?_
      obtain ⟨x_3, ex_4, h⟩ := lett_some h
      refine T_iinc (L' := [aU, aI x_1, aI x_3]) dX2_cornered_20 rfl (ic_inc ic_1 ex_4) (Nat.le_of_ble_eq_true rfl) rfl ?_
      refine T_goto (tgt := 4) dX2_cornered_23 (by decide) ?_
      obtain rfl := sm1 h
      exact hI _ _ rfl
set_option maxRecDepth 100000 in
set_option maxHeartbeats 4000000 in
theorem l_X2_cornered_L4 (lw : Nat → Option Nat) (tl : Option Nat) (tt : Option Nat) (M : Mem) {Po : Po_} (e1 : Int32) : ∀ (k : Nat) (x1 : Int32) (x2 : Int32), loop (X2_cornered_L4 ) k (x1, x2) = some e1 → (T RX2 cX2_cornered 3 (some .int) 0 1 0 0 false Po 26 [aU, aI e1, aU] [] LAYC (rfs lw tl tt) M 0 0) → T RX2 cX2_cornered 3 (some .int) 0 1 0 0 false Po 4 [aU, aI x1, aI x2] [] LAYC (rfs lw tl tt) M 0 0 := by
  intro k
  induction k with
  | zero => intro x1 x2 h; cases h
  | succ k ih =>
    intro x1 x2 h hE
    obtain ⟨x, hx, hx1, hx2⟩ := loop_succ h
    exact s_X2_cornered_L4  lw tl tt M   x1 x2 x hx (fun q0 q1 e => ih q0 q1 (hx1 _ e) hE) (fun q0 e => by cases hx2 _ e; exact hE)
set_option maxRecDepth 100000 in
set_option maxHeartbeats 4000000 in
theorem s_X2_cornered_L28 (lw : Nat → Option Nat) (tl : Option Nat) (tt : Option Nat) (M : Mem) (x1 : Int32) (x2 : Int32) {Po : Po_} (x : (Int32 × Int32) ⊕ (Int32)) (h : X2_cornered_L28  (x1, x2) = some x) (hI : ∀ (ix1 : Int32) (ix2 : Int32), x = .inl (ix1, ix2) → T RX2 cX2_cornered 3 (some .int) 0 1 0 0 false Po 28 [aU, aI ix1, aI ix2] [] LAYC (rfs lw tl tt) M 0 0) (hE0 : ∀ (er : Int32), x = .inr er → Po (vI er) LAYC (rfs lw tl tt) M) : T RX2 cX2_cornered 3 (some .int) 0 1 0 0 false Po 28 [aU, aI x1, aI x2] [] LAYC (rfs lw tl tt) M 0 0 := by
  unfold X2_cornered_L28 at h
  simp only at h
  refine T_iload_n dX2_cornered_28 rfl ?_
  refine T_iconst dX2_cornered_29 ic_4 ?_
  refine T_icmp_ge (tgt := 51) dX2_cornered_30 (by decide) (fun hc => ?_) (fun hc => ?_)
  · have h := it_pos hc h
    refine T_iload_n dX2_cornered_51 rfl ?_
    obtain rfl := sm1 h
    exact T_iret dX2_cornered_52 (hE0 _ rfl)
  · have h := it_neg hc h
    refine T_iload_n dX2_cornered_33 rfl ?_
    refine T_sipush dX2_cornered_34 sp_4369 ?_
    refine T_iand dX2_cornered_37 ?_
    refine T_if_ne (tgt := 51) dX2_cornered_38 (by decide) (fun hc => ?_) (fun hc => ?_)
    · have h := it_neg hc h
      refine T_iload_n dX2_cornered_51 rfl ?_
      obtain rfl := sm1 h
      exact T_iret dX2_cornered_52 (hE0 _ rfl)
    · have h := it_pos hc h
      refine T_iload_n dX2_cornered_41 rfl ?_
      refine T_iconst dX2_cornered_42 ic_1 ?_
      refine T_iushr dX2_cornered_43 ?_
      obtain ⟨x_6, ex_7, h⟩ := lett_some h
      refine T_topI ex_7 ?_
      refine T_istore_n (i := 1) (L' := [aU, aI x_6, aI x2]) dX2_cornered_44 rfl (Nat.le_of_ble_eq_true rfl) rfl ?_
      obtain ⟨x_8, ex_9, h⟩ := lett_some h
      refine T_iinc (L' := [aU, aI x_6, aI x_8]) dX2_cornered_45 rfl (ic_inc ic_1 ex_9) (Nat.le_of_ble_eq_true rfl) rfl ?_
      refine T_goto (tgt := 28) dX2_cornered_48 (by decide) ?_
      obtain rfl := sm1 h
      exact hI _ _ rfl
set_option maxRecDepth 100000 in
set_option maxHeartbeats 4000000 in
theorem l_X2_cornered_L28 (lw : Nat → Option Nat) (tl : Option Nat) (tt : Option Nat) (M : Mem) {Po : Po_} (er : Int32) : ∀ (k : Nat) (x1 : Int32) (x2 : Int32), loop (X2_cornered_L28 ) k (x1, x2) = some er → (Po (vI er) LAYC (rfs lw tl tt) M) → T RX2 cX2_cornered 3 (some .int) 0 1 0 0 false Po 28 [aU, aI x1, aI x2] [] LAYC (rfs lw tl tt) M 0 0 := by
  intro k
  induction k with
  | zero => intro x1 x2 h; cases h
  | succ k ih =>
    intro x1 x2 h hE
    obtain ⟨x, hx, hx1, hx2⟩ := loop_succ h
    exact s_X2_cornered_L28  lw tl tt M   x1 x2 x hx (fun q0 q1 e => ih q0 q1 (hx1 _ e) hE) (fun q0 e => by cases hx2 _ e; exact hE)
set_option maxRecDepth 100000 in
set_option maxHeartbeats 4000000 in
theorem m_X2_cornered (lw : Nat → Option Nat) (tl : Option Nat) (tt : Option Nat) (M : Mem) (x0 : Int32) (r : Int32) (h : F_X2_cornered x0 = some r) : Cal yX2_cornered cX2_cornered 3 (some .int) 0 1 0 0 false [vI x0] LAYC (rfs lw tl tt) M (eqp (vI r) LAYC (rfs lw tl tt) M) := by
  refine Cal.of (by decide +kernel) (Nat.le_of_ble_eq_true rfl) (fun h => by cases h) ?_
  unfold F_X2_cornered at h
  show T RX2 cX2_cornered 3 (some .int) 0 1 0 0 false (eqp (vI r) LAYC (rfs lw tl tt) M) 0 [aI x0, aU, aU] [] LAYC (rfs lw tl tt) M 0 0
  refine T_iload_n dX2_cornered_0 rfl ?_
  refine T_istore_n (i := 1) (L' := [aI x0, aI x0, aU]) dX2_cornered_1 rfl (Nat.le_of_ble_eq_true rfl) rfl ?_
  refine T_iconst dX2_cornered_2 ic_0 ?_
  refine T_istore_n (i := 2) (L' := [aI x0, aI x0, aI 0]) dX2_cornered_3 rfl (Nat.le_of_ble_eq_true rfl) rfl ?_
  obtain ⟨x_5, hl, h⟩ := bd1_some h
  refine T_mask [false, true, true] rfl ?_
  refine l_X2_cornered_L4  lw tl tt M   _ FU x0 0 hl ?_
  refine T_iconst dX2_cornered_26 ic_0 ?_
  refine T_istore_n (i := 2) (L' := [aU, aI x_5, aI 0]) dX2_cornered_27 rfl (Nat.le_of_ble_eq_true rfl) rfl ?_
  exact l_X2_cornered_L28  lw tl tt M   _ FU x_5 0 h ⟨rfl, rfl, rfl, rfl⟩
def X2_turned_L11 (x0 : Int32) (x2 : Int32) : Int32 × Int32 → Option ((Int32 × Int32) ⊕ (Int32))
  | (x1, x3) =>
    if (nI 4) ≤ x3 then some (.inr x1)
    else if ((ius x0 ((x2 * (nI 4)) + x3)) &&& 1) = 0 then lett (x3 + 1) fun x_1 => some (.inl (x1, x_1))
    else lett (x1 ||| (ish 1 ((((x3 * (nI 4)) + (nI 4)) - 1) - x2))) fun x_3 => lett (x3 + 1) fun x_5 => some (.inl (x_3, x_5))
def X2_turned_L4 (x0 : Int32) : Int32 × Int32 → Option ((Int32 × Int32) ⊕ (Int32))
  | (x1, x2) =>
    if (nI 4) ≤ x2 then some (.inr x1)
    else bd1 (loop (X2_turned_L11 x0 x2) FU (x1, 0)) fun x_7 => lett (x2 + 1) fun x_8 => some (.inl (x_7, x_8))
def F_X2_turned (x0 : Int32) : Option (Int32) :=
 loop (X2_turned_L4 x0) FU (0, 0)
set_option maxRecDepth 100000 in
set_option maxHeartbeats 4000000 in
theorem s_X2_turned_L11 (lw : Nat → Option Nat) (tl : Option Nat) (tt : Option Nat) (M : Mem) (x0 : Int32) (x2 : Int32) (x1 : Int32) (x3 : Int32) {Po : Po_} (x : (Int32 × Int32) ⊕ (Int32)) (h : X2_turned_L11 x0 x2 (x1, x3) = some x) (hI : ∀ (ix1 : Int32) (ix3 : Int32), x = .inl (ix1, ix3) → T RX2 cX2_turned 4 (some .int) 0 1 0 0 false Po 11 [aI x0, aI ix1, aI x2, aI ix3] [] LAYC (rfs lw tl tt) M 0 0) (hE0 : ∀ (e1 : Int32), x = .inr e1 → T RX2 cX2_turned 4 (some .int) 0 1 0 0 false Po 48 [aI x0, aI e1, aI x2, aU] [] LAYC (rfs lw tl tt) M 0 0) : T RX2 cX2_turned 4 (some .int) 0 1 0 0 false Po 11 [aI x0, aI x1, aI x2, aI x3] [] LAYC (rfs lw tl tt) M 0 0 := by
  unfold X2_turned_L11 at h
  simp only at h
  refine T_iload_n dX2_turned_11 rfl ?_
  refine T_iconst dX2_turned_12 ic_4 ?_
  refine T_icmp_ge (tgt := 48) dX2_turned_13 (by decide) (fun hc => ?_) (fun hc => ?_)
  · have h := it_pos hc h
    obtain rfl := sm1 h
    refine T_mask [true, true, true, false] rfl ?_
    exact hE0 _ rfl
  · have h := it_neg hc h
    refine T_iload_n dX2_turned_16 rfl ?_
    refine T_iload_n dX2_turned_17 rfl ?_
    refine T_iconst dX2_turned_18 ic_4 ?_
    refine T_imul dX2_turned_19 ?_
    refine T_iload_n dX2_turned_20 rfl ?_
    refine T_iadd dX2_turned_21 ?_
    refine T_iushr dX2_turned_22 ?_
    refine T_iconst dX2_turned_23 ic_1 ?_
    refine T_iand dX2_turned_24 ?_
    refine T_if_eq (tgt := 42) dX2_turned_25 (by decide) (fun hc => ?_) (fun hc => ?_)
    · have h := it_pos hc h
      obtain ⟨x_1, ex_2, h⟩ := lett_some h
      refine T_iinc (L' := [aI x0, aI x1, aI x2, aI x_1]) dX2_turned_42 rfl (ic_inc ic_1 ex_2) (Nat.le_of_ble_eq_true rfl) rfl ?_
      refine T_goto (tgt := 11) dX2_turned_45 (by decide) ?_
      obtain rfl := sm1 h
      exact hI _ _ rfl
    · have h := it_neg hc h
      refine T_iload_n dX2_turned_28 rfl ?_
      refine T_iconst dX2_turned_29 ic_1 ?_
      refine T_iload_n dX2_turned_30 rfl ?_
      refine T_iconst dX2_turned_31 ic_4 ?_
      refine T_imul dX2_turned_32 ?_
      refine T_iconst dX2_turned_33 ic_4 ?_
      refine T_iadd dX2_turned_34 ?_
      refine T_iconst dX2_turned_35 ic_1 ?_
      refine T_isub dX2_turned_36 ?_
      refine T_iload_n dX2_turned_37 rfl ?_
      refine T_isub dX2_turned_38 ?_
      refine T_ishl dX2_turned_39 ?_
      refine T_ior dX2_turned_40 ?_
      obtain ⟨x_3, ex_4, h⟩ := lett_some h
      refine T_topI ex_4 ?_
      refine T_istore_n (i := 1) (L' := [aI x0, aI x_3, aI x2, aI x3]) dX2_turned_41 rfl (Nat.le_of_ble_eq_true rfl) rfl ?_
      obtain ⟨x_5, ex_6, h⟩ := lett_some h
      refine T_iinc (L' := [aI x0, aI x_3, aI x2, aI x_5]) dX2_turned_42 rfl (ic_inc ic_1 ex_6) (Nat.le_of_ble_eq_true rfl) rfl ?_
      refine T_goto (tgt := 11) dX2_turned_45 (by decide) ?_
      obtain rfl := sm1 h
      exact hI _ _ rfl
set_option maxRecDepth 100000 in
set_option maxHeartbeats 4000000 in
theorem l_X2_turned_L11 (lw : Nat → Option Nat) (tl : Option Nat) (tt : Option Nat) (M : Mem) (x0 : Int32) (x2 : Int32) {Po : Po_} (e1 : Int32) : ∀ (k : Nat) (x1 : Int32) (x3 : Int32), loop (X2_turned_L11 x0 x2) k (x1, x3) = some e1 → (T RX2 cX2_turned 4 (some .int) 0 1 0 0 false Po 48 [aI x0, aI e1, aI x2, aU] [] LAYC (rfs lw tl tt) M 0 0) → T RX2 cX2_turned 4 (some .int) 0 1 0 0 false Po 11 [aI x0, aI x1, aI x2, aI x3] [] LAYC (rfs lw tl tt) M 0 0 := by
  intro k
  induction k with
  | zero => intro x1 x3 h; cases h
  | succ k ih =>
    intro x1 x3 h hE
    obtain ⟨x, hx, hx1, hx2⟩ := loop_succ h
    exact s_X2_turned_L11  lw tl tt M x0 x2  x1 x3 x hx (fun q0 q1 e => ih q0 q1 (hx1 _ e) hE) (fun q0 e => by cases hx2 _ e; exact hE)
set_option maxRecDepth 100000 in
set_option maxHeartbeats 4000000 in
theorem s_X2_turned_L4 (lw : Nat → Option Nat) (tl : Option Nat) (tt : Option Nat) (M : Mem) (x0 : Int32) (x1 : Int32) (x2 : Int32) {Po : Po_} (x : (Int32 × Int32) ⊕ (Int32)) (h : X2_turned_L4 x0 (x1, x2) = some x) (hI : ∀ (ix1 : Int32) (ix2 : Int32), x = .inl (ix1, ix2) → T RX2 cX2_turned 4 (some .int) 0 1 0 0 false Po 4 [aI x0, aI ix1, aI ix2, aU] [] LAYC (rfs lw tl tt) M 0 0) (hE0 : ∀ (er : Int32), x = .inr er → Po (vI er) LAYC (rfs lw tl tt) M) : T RX2 cX2_turned 4 (some .int) 0 1 0 0 false Po 4 [aI x0, aI x1, aI x2, aU] [] LAYC (rfs lw tl tt) M 0 0 := by
  unfold X2_turned_L4 at h
  simp only at h
  refine T_iload_n dX2_turned_4 rfl ?_
  refine T_iconst dX2_turned_5 ic_4 ?_
  refine T_icmp_ge (tgt := 54) dX2_turned_6 (by decide) (fun hc => ?_) (fun hc => ?_)
  · have h := it_pos hc h
    refine T_iload_n dX2_turned_54 rfl ?_
    obtain rfl := sm1 h
    exact T_iret dX2_turned_55 (hE0 _ rfl)
  · have h := it_neg hc h
    refine T_iconst dX2_turned_9 ic_0 ?_
    refine T_istore_n (i := 3) (L' := [aI x0, aI x1, aI x2, aI 0]) dX2_turned_10 rfl (Nat.le_of_ble_eq_true rfl) rfl ?_
    obtain ⟨x_7, hl, h⟩ := bd1_some h
    refine l_X2_turned_L11  lw tl tt M x0 x2  _ FU x1 0 hl ?_
    obtain ⟨x_8, ex_9, h⟩ := lett_some h
    refine T_iinc (L' := [aI x0, aI x_7, aI x_8, aU]) dX2_turned_48 rfl (ic_inc ic_1 ex_9) (Nat.le_of_ble_eq_true rfl) rfl ?_
    refine T_goto (tgt := 4) dX2_turned_51 (by decide) ?_
    obtain rfl := sm1 h
    exact hI _ _ rfl
set_option maxRecDepth 100000 in
set_option maxHeartbeats 4000000 in
theorem l_X2_turned_L4 (lw : Nat → Option Nat) (tl : Option Nat) (tt : Option Nat) (M : Mem) (x0 : Int32) {Po : Po_} (er : Int32) : ∀ (k : Nat) (x1 : Int32) (x2 : Int32), loop (X2_turned_L4 x0) k (x1, x2) = some er → (Po (vI er) LAYC (rfs lw tl tt) M) → T RX2 cX2_turned 4 (some .int) 0 1 0 0 false Po 4 [aI x0, aI x1, aI x2, aU] [] LAYC (rfs lw tl tt) M 0 0 := by
  intro k
  induction k with
  | zero => intro x1 x2 h; cases h
  | succ k ih =>
    intro x1 x2 h hE
    obtain ⟨x, hx, hx1, hx2⟩ := loop_succ h
    exact s_X2_turned_L4  lw tl tt M x0  x1 x2 x hx (fun q0 q1 e => ih q0 q1 (hx1 _ e) hE) (fun q0 e => by cases hx2 _ e; exact hE)
set_option maxRecDepth 100000 in
set_option maxHeartbeats 4000000 in
theorem m_X2_turned (lw : Nat → Option Nat) (tl : Option Nat) (tt : Option Nat) (M : Mem) (x0 : Int32) (r : Int32) (h : F_X2_turned x0 = some r) : Cal yX2_turned cX2_turned 4 (some .int) 0 1 0 0 false [vI x0] LAYC (rfs lw tl tt) M (eqp (vI r) LAYC (rfs lw tl tt) M) := by
  refine Cal.of (by decide +kernel) (Nat.le_of_ble_eq_true rfl) (fun h => by cases h) ?_
  unfold F_X2_turned at h
  show T RX2 cX2_turned 4 (some .int) 0 1 0 0 false (eqp (vI r) LAYC (rfs lw tl tt) M) 0 [aI x0, aU, aU, aU] [] LAYC (rfs lw tl tt) M 0 0
  refine T_iconst dX2_turned_0 ic_0 ?_
  refine T_istore_n (i := 1) (L' := [aI x0, aI 0, aU, aU]) dX2_turned_1 rfl (Nat.le_of_ble_eq_true rfl) rfl ?_
  refine T_iconst dX2_turned_2 ic_0 ?_
  refine T_istore_n (i := 2) (L' := [aI x0, aI 0, aI 0, aU]) dX2_turned_3 rfl (Nat.le_of_ble_eq_true rfl) rfl ?_
  exact l_X2_turned_L4  lw tl tt M x0  _ FU 0 0 h ⟨rfl, rfl, rfl, rfl⟩
def X3_is_L7 (M : Mem) (x1 : Int32) : Int32 × Int32 → Option ((Int32 × Int32) ⊕ (Int32))
  | (x2, x3) =>
    if (nI 6) ≤ x3 then some (.inr 0)
    else if x2 = x1 then some (.inr 1)
    else if x2 < 0 then some (.inr 0)
    else if x2 < (nI 6) then chk (inb x2 6 = true) (lett (stv 1 x2.toNatClampNeg) fun x_4 => lett (x3 + 1) fun x_6 => some (.inl (x_4, x_6)))
    else some (.inr 0)
def F_X3_is (M : Mem) (p0 : Nat) (x1 : Int32) : Option (Int32) :=
 lett (gI M p0 0) fun x_1 => loop (X3_is_L7 M x1) FU (x_1, 0)
set_option maxRecDepth 100000 in
set_option maxHeartbeats 4000000 in
theorem s_X3_is_L7 (lw : Nat → Option Nat) (tl : Option Nat) (tt : Option Nat) (M : Mem) (x1 : Int32) (x2 : Int32) (x3 : Int32) {Po : Po_} (x : (Int32 × Int32) ⊕ (Int32)) (h : X3_is_L7 M x1 (x2, x3) = some x) (hI : ∀ (ix2 : Int32) (ix3 : Int32), x = .inl (ix2, ix3) → T RX3 cX3_is 4 (some .boolean) 0 1 0 0 false Po 7 [aU, aI x1, aI ix2, aI ix3] [] LAYC (rfs lw tl tt) M 0 0) (hE0 : ∀ (er : Int32), x = .inr er → Po (vI er) LAYC (rfs lw tl tt) M) : T RX3 cX3_is 4 (some .boolean) 0 1 0 0 false Po 7 [aU, aI x1, aI x2, aI x3] [] LAYC (rfs lw tl tt) M 0 0 := by
  unfold X3_is_L7 at h
  simp only at h
  refine T_iload_n dX3_is_7 rfl ?_
  refine T_gets1 dX3_is_8 fs_X3_19 ?_
  refine T_slen1 dX3_is_11 ?_
  refine T_icmp_ge (tgt := 48) dX3_is_12 (by decide) (fun hc => ?_) (fun hc => ?_)
  · have h := it_pos hc h
    refine T_iconst dX3_is_48 ic_0 ?_
    obtain rfl := sm1 h
    exact T_zret dX3_is_49 (Or.inl rfl) (hE0 _ rfl)
  · have h := it_neg hc h
    refine T_iload_n dX3_is_15 rfl ?_
    refine T_iload_n dX3_is_16 rfl ?_
    refine T_icmp_ne (tgt := 22) dX3_is_17 (by decide) (fun hc => ?_) (fun hc => ?_)
    · have h := it_neg hc h
      refine T_iload_n dX3_is_22 rfl ?_
      refine T_if_lt (tgt := 34) dX3_is_23 (by decide) (fun hc => ?_) (fun hc => ?_)
      · have h := it_pos hc h
        refine T_iconst dX3_is_34 ic_0 ?_
        obtain rfl := sm1 h
        exact T_zret dX3_is_35 (Or.inl rfl) (hE0 _ rfl)
      · have h := it_neg hc h
        refine T_iload_n dX3_is_26 rfl ?_
        refine T_gets1 dX3_is_27 fs_X3_19 ?_
        refine T_slen1 dX3_is_30 ?_
        refine T_icmp_lt (tgt := 36) dX3_is_31 (by decide) (fun hc => ?_) (fun hc => ?_)
        · have h := it_pos hc h
          refine T_gets1 dX3_is_36 fs_X3_19 ?_
          refine T_iload_n dX3_is_39 rfl ?_
          obtain ⟨hi_3, h⟩ := chk_some h
          refine T_sald1 dX3_is_40 (inb_in hi_3) ?_
          obtain ⟨x_4, ex_5, h⟩ := lett_some h
          refine T_topI ex_5 ?_
          refine T_istore_n (i := 2) (L' := [aU, aI x1, aI x_4, aI x3]) dX3_is_41 rfl (Nat.le_of_ble_eq_true rfl) rfl ?_
          obtain ⟨x_6, ex_7, h⟩ := lett_some h
          refine T_iinc (L' := [aU, aI x1, aI x_4, aI x_6]) dX3_is_42 rfl (ic_inc ic_1 ex_7) (Nat.le_of_ble_eq_true rfl) rfl ?_
          refine T_goto (tgt := 7) dX3_is_45 (by decide) ?_
          obtain rfl := sm1 h
          exact hI _ _ rfl
        · have h := it_neg hc h
          refine T_iconst dX3_is_34 ic_0 ?_
          obtain rfl := sm1 h
          exact T_zret dX3_is_35 (Or.inl rfl) (hE0 _ rfl)
    · have h := it_pos hc h
      refine T_iconst dX3_is_20 ic_1 ?_
      obtain rfl := sm1 h
      exact T_zret dX3_is_21 (Or.inr rfl) (hE0 _ rfl)
set_option maxRecDepth 100000 in
set_option maxHeartbeats 4000000 in
theorem l_X3_is_L7 (lw : Nat → Option Nat) (tl : Option Nat) (tt : Option Nat) (M : Mem) (x1 : Int32) {Po : Po_} (er : Int32) : ∀ (k : Nat) (x2 : Int32) (x3 : Int32), loop (X3_is_L7 M x1) k (x2, x3) = some er → (Po (vI er) LAYC (rfs lw tl tt) M) → T RX3 cX3_is 4 (some .boolean) 0 1 0 0 false Po 7 [aU, aI x1, aI x2, aI x3] [] LAYC (rfs lw tl tt) M 0 0 := by
  intro k
  induction k with
  | zero => intro x2 x3 h; cases h
  | succ k ih =>
    intro x2 x3 h hE
    obtain ⟨x, hx, hx1, hx2⟩ := loop_succ h
    exact s_X3_is_L7  lw tl tt M x1  x2 x3 x hx (fun q0 q1 e => ih q0 q1 (hx1 _ e) hE) (fun q0 e => by cases hx2 _ e; exact hE)
set_option maxRecDepth 100000 in
set_option maxHeartbeats 4000000 in
theorem m_X3_is (lw : Nat → Option Nat) (tl : Option Nat) (tt : Option Nat) (M : Mem) (p0 : Nat) (x1 : Int32) (h0 : isX3 p0 = true) (r : Int32) (h : F_X3_is M p0 x1 = some r) : Cal yX3_is cX3_is 4 (some .boolean) 0 1 0 0 false [vR (some p0), vI x1] LAYC (rfs lw tl tt) M (eqp (vI r) LAYC (rfs lw tl tt) M) := by
  refine Cal.of (by decide +kernel) (Nat.le_of_ble_eq_true rfl) (fun h => by cases h) ?_
  unfold F_X3_is at h
  show T RX3 cX3_is 4 (some .boolean) 0 1 0 0 false (eqp (vI r) LAYC (rfs lw tl tt) M) 0 [aR (some p0), aI x1, aU, aU] [] LAYC (rfs lw tl tt) M 0 0
  refine T_aload_n dX3_is_0 rfl ?_
  refine T_getI dX3_is_1 clOK_X3 fl_X3_9 (lyX3 h0) rfl ?_
  obtain ⟨x_1, ex_2, h⟩ := lett_some h
  refine T_topI ex_2 ?_
  refine T_istore_n (i := 2) (L' := [aR (some p0), aI x1, aI x_1, aU]) dX3_is_4 rfl (Nat.le_of_ble_eq_true rfl) rfl ?_
  refine T_iconst dX3_is_5 ic_0 ?_
  refine T_istore_n (i := 3) (L' := [aR (some p0), aI x1, aI x_1, aI 0]) dX3_is_6 rfl (Nat.le_of_ble_eq_true rfl) rfl ?_
  refine T_mask [false, true, true, true] rfl ?_
  exact l_X3_is_L7  lw tl tt M x1  _ FU x_1 0 h ⟨rfl, rfl, rfl, rfl⟩
def X3_areAlike_L42 (M : Mem) (x3 : Int32) (x5 : Int32) : Int32 × Int32 → Option ((Int32 × Int32) ⊕ (Int32))
  | (x4, x6) =>
    if x3 ≤ x6 then some (.inr x4)
    else if x4 = x5 then some (.inr x4)
    else bd1 (F_X2_turned x4) fun r_13 => bd1 (F_X2_cornered r_13) fun r_15 => lett (x6 + 1) fun x_17 => some (.inl (r_15, x_17))
def F_X3_areAlike (M : Mem) (p0 : Nat) (x1 : Int32) (x2 : Int32) (x3 : Int32) : Option (Int32) :=
 bd1 (F_J6_bitCount_0f7a4 x1) fun r_1 => bd1 (F_J6_bitCount_0f7a4 x2) fun r_3 => if r_1 = r_3 then bd1 (F_X2_onBoard M x1) fun r_5 => bd1 (F_X2_cornered r_5) fun r_7 => bd1 (F_X2_onBoard M x2) fun r_9 => bd1 (F_X2_cornered r_9) fun r_11 => bd1 (loop (X3_areAlike_L42 M x3 r_11) FU (r_7, 0)) fun x_19 => if x_19 = r_11 then some 1
 else some 0
 else some 0
set_option maxRecDepth 100000 in
set_option maxHeartbeats 4000000 in
theorem s_X3_areAlike_L42 (lw : Nat → Option Nat) (tl : Option Nat) (tt : Option Nat) (M : Mem) (x3 : Int32) (x5 : Int32) (x4 : Int32) (x6 : Int32) {Po : Po_} (x : (Int32 × Int32) ⊕ (Int32)) (h : X3_areAlike_L42 M x3 x5 (x4, x6) = some x) (hI : ∀ (ix4 : Int32) (ix6 : Int32), x = .inl (ix4, ix6) → T RX3 cX3_areAlike 7 (some .boolean) 0 2 0 0 false Po 42 [aU, aU, aU, aI x3, aI ix4, aI x5, aI ix6] [] LAYC (rfs lw tl tt) M 0 0) (hE0 : ∀ (e4 : Int32), x = .inr e4 → T RX3 cX3_areAlike 7 (some .boolean) 0 2 0 0 false Po 71 [aU, aU, aU, aU, aI e4, aI x5, aU] [] LAYC (rfs lw tl tt) M 0 0) : T RX3 cX3_areAlike 7 (some .boolean) 0 2 0 0 false Po 42 [aU, aU, aU, aI x3, aI x4, aI x5, aI x6] [] LAYC (rfs lw tl tt) M 0 0 := by
  unfold X3_areAlike_L42 at h
  simp only at h
  refine T_iload dX3_areAlike_42 rfl ?_
  refine T_iload_n dX3_areAlike_44 rfl ?_
  refine T_icmp_ge (tgt := 71) dX3_areAlike_45 (by decide) (fun hc => ?_) (fun hc => ?_)
  · have h := it_pos hc h
    obtain rfl := sm1 h
    refine T_mask [true, true, true, false, true, true, false] rfl ?_
    exact hE0 _ rfl
  · have h := it_neg hc h
    refine T_iload dX3_areAlike_48 rfl ?_
    refine T_iload dX3_areAlike_50 rfl ?_
    refine T_icmp_eq (tgt := 71) dX3_areAlike_52 (by decide) (fun hc => ?_) (fun hc => ?_)
    · have h := it_pos hc h
      obtain rfl := sm1 h
      refine T_mask [true, true, true, false, true, true, false] rfl ?_
      exact hE0 _ rfl
    · have h := it_neg hc h
      refine T_iload dX3_areAlike_55 rfl ?_
      obtain ⟨r_13, hc_14, h⟩ := bd1_some h
      refine T_csi (as := [vI x4]) dX3_areAlike_57 cw_X2_turned ml_X3_52 mt_X2_turned rfl (Nat.le_of_ble_eq_true rfl) (Nat.le_of_ble_eq_true rfl) (m_X2_turned lw tl tt M x4  _ hc_14) ?_
      obtain ⟨r_15, hc_16, h⟩ := bd1_some h
      refine T_csi (as := [vI r_13]) dX3_areAlike_60 cw_X2_cornered ml_X3_49 mt_X2_cornered rfl (Nat.le_of_ble_eq_true rfl) (Nat.le_of_ble_eq_true rfl) (m_X2_cornered lw tl tt M r_13  _ hc_16) ?_
      refine T_istore (i := 4) (L' := [aU, aU, aU, aI x3, aI r_15, aI x5, aI x6]) dX3_areAlike_63 (Nat.le_of_ble_eq_true rfl) rfl ?_
      obtain ⟨x_17, ex_18, h⟩ := lett_some h
      refine T_iinc (L' := [aU, aU, aU, aI x3, aI r_15, aI x5, aI x_17]) dX3_areAlike_65 rfl (ic_inc ic_1 ex_18) (Nat.le_of_ble_eq_true rfl) rfl ?_
      refine T_goto (tgt := 42) dX3_areAlike_68 (by decide) ?_
      obtain rfl := sm1 h
      exact hI _ _ rfl
set_option maxRecDepth 100000 in
set_option maxHeartbeats 4000000 in
theorem l_X3_areAlike_L42 (lw : Nat → Option Nat) (tl : Option Nat) (tt : Option Nat) (M : Mem) (x3 : Int32) (x5 : Int32) {Po : Po_} (e4 : Int32) : ∀ (k : Nat) (x4 : Int32) (x6 : Int32), loop (X3_areAlike_L42 M x3 x5) k (x4, x6) = some e4 → (T RX3 cX3_areAlike 7 (some .boolean) 0 2 0 0 false Po 71 [aU, aU, aU, aU, aI e4, aI x5, aU] [] LAYC (rfs lw tl tt) M 0 0) → T RX3 cX3_areAlike 7 (some .boolean) 0 2 0 0 false Po 42 [aU, aU, aU, aI x3, aI x4, aI x5, aI x6] [] LAYC (rfs lw tl tt) M 0 0 := by
  intro k
  induction k with
  | zero => intro x4 x6 h; cases h
  | succ k ih =>
    intro x4 x6 h hE
    obtain ⟨x, hx, hx1, hx2⟩ := loop_succ h
    exact s_X3_areAlike_L42  lw tl tt M x3 x5  x4 x6 x hx (fun q0 q1 e => ih q0 q1 (hx1 _ e) hE) (fun q0 e => by cases hx2 _ e; exact hE)
set_option maxRecDepth 100000 in
set_option maxHeartbeats 4000000 in
theorem m_X3_areAlike (lw : Nat → Option Nat) (tl : Option Nat) (tt : Option Nat) (M : Mem) (p0 : Nat) (x1 : Int32) (x2 : Int32) (x3 : Int32) (h0 : isX3 p0 = true) (r : Int32) (h : F_X3_areAlike M p0 x1 x2 x3 = some r) : Cal yX3_areAlike cX3_areAlike 7 (some .boolean) 0 2 0 0 false [vR (some p0), vI x1, vI x2, vI x3] LAYC (rfs lw tl tt) M (eqp (vI r) LAYC (rfs lw tl tt) M) := by
  refine Cal.of (by decide +kernel) (Nat.le_of_ble_eq_true rfl) (fun h => by cases h) ?_
  unfold F_X3_areAlike at h
  show T RX3 cX3_areAlike 7 (some .boolean) 0 2 0 0 false (eqp (vI r) LAYC (rfs lw tl tt) M) 0 [aR (some p0), aI x1, aI x2, aI x3, aU, aU, aU] [] LAYC (rfs lw tl tt) M 0 0
  refine T_iload_n dX3_areAlike_0 rfl ?_
  obtain ⟨r_1, hc_2, h⟩ := bd1_some h
  refine T_csi (as := [vI x1]) dX3_areAlike_1 cw_J6_bitCount_0f7a4 ml_X3_39 mt_J6_bitCount_0f7a4 rfl (Nat.le_of_ble_eq_true rfl) (Nat.le_of_ble_eq_true rfl) (m_J6_bitCount_0f7a4 LAYC (rfs lw tl tt) M x1  _ hc_2) ?_
  refine T_iload_n dX3_areAlike_4 rfl ?_
  obtain ⟨r_3, hc_4, h⟩ := bd1_some h
  refine T_csi (as := [vI x2]) dX3_areAlike_5 cw_J6_bitCount_0f7a4 ml_X3_39 mt_J6_bitCount_0f7a4 rfl (Nat.le_of_ble_eq_true rfl) (Nat.le_of_ble_eq_true rfl) (m_J6_bitCount_0f7a4 LAYC (rfs lw tl tt) M x2  _ hc_4) ?_
  refine T_icmp_eq (tgt := 13) dX3_areAlike_8 (by decide) (fun hc => ?_) (fun hc => ?_)
  · have h := it_pos hc h
    refine T_aload_n dX3_areAlike_13 rfl ?_
    refine T_getR dX3_areAlike_14 clOK_X3 fl_X3_15 (lyX3 h0) rfl (rfX3_1 h0) ?_
    refine T_iload_n dX3_areAlike_17 rfl ?_
    obtain ⟨r_5, hc_6, h⟩ := bd1_some h
    refine T_cvi (as := [vI x1]) dX3_areAlike_18 cw_X2_onBoard ml_X3_44 mi_X2_onBoard se_X2_onBoard lyC_7 rfl (by decide) rfl (Nat.le_of_ble_eq_true rfl) (Nat.le_of_ble_eq_true rfl) (m_X2_onBoard lw tl tt M x1  _ hc_6) ?_
    obtain ⟨r_7, hc_8, h⟩ := bd1_some h
    refine T_csi (as := [vI r_5]) dX3_areAlike_21 cw_X2_cornered ml_X3_49 mt_X2_cornered rfl (Nat.le_of_ble_eq_true rfl) (Nat.le_of_ble_eq_true rfl) (m_X2_cornered lw tl tt M r_5  _ hc_8) ?_
    refine T_istore (i := 4) (L' := [aR (some p0), aI x1, aI x2, aI x3, aI r_7, aU, aU]) dX3_areAlike_24 (Nat.le_of_ble_eq_true rfl) rfl ?_
    refine T_aload_n dX3_areAlike_26 rfl ?_
    refine T_getR dX3_areAlike_27 clOK_X3 fl_X3_15 (lyX3 h0) rfl (rfX3_1 h0) ?_
    refine T_iload_n dX3_areAlike_30 rfl ?_
    obtain ⟨r_9, hc_10, h⟩ := bd1_some h
    refine T_cvi (as := [vI x2]) dX3_areAlike_31 cw_X2_onBoard ml_X3_44 mi_X2_onBoard se_X2_onBoard lyC_7 rfl (by decide) rfl (Nat.le_of_ble_eq_true rfl) (Nat.le_of_ble_eq_true rfl) (m_X2_onBoard lw tl tt M x2  _ hc_10) ?_
    obtain ⟨r_11, hc_12, h⟩ := bd1_some h
    refine T_csi (as := [vI r_9]) dX3_areAlike_34 cw_X2_cornered ml_X3_49 mt_X2_cornered rfl (Nat.le_of_ble_eq_true rfl) (Nat.le_of_ble_eq_true rfl) (m_X2_cornered lw tl tt M r_9  _ hc_12) ?_
    refine T_istore (i := 5) (L' := [aR (some p0), aI x1, aI x2, aI x3, aI r_7, aI r_11, aU]) dX3_areAlike_37 (Nat.le_of_ble_eq_true rfl) rfl ?_
    refine T_iconst dX3_areAlike_39 ic_0 ?_
    refine T_istore (i := 6) (L' := [aR (some p0), aI x1, aI x2, aI x3, aI r_7, aI r_11, aI 0]) dX3_areAlike_40 (Nat.le_of_ble_eq_true rfl) rfl ?_
    obtain ⟨x_19, hl, h⟩ := bd1_some h
    refine T_mask [false, false, false, true, true, true, true] rfl ?_
    refine l_X3_areAlike_L42  lw tl tt M x3 r_11  _ FU r_7 0 hl ?_
    refine T_iload dX3_areAlike_71 rfl ?_
    refine T_iload dX3_areAlike_73 rfl ?_
    refine T_icmp_ne (tgt := 82) dX3_areAlike_75 (by decide) (fun hc => ?_) (fun hc => ?_)
    · have h := it_neg hc h
      refine T_iconst dX3_areAlike_82 ic_0 ?_
      obtain rfl := sm1 h
      exact T_zret dX3_areAlike_83 (Or.inl rfl) ⟨rfl, rfl, rfl, rfl⟩
    · have h := it_pos hc h
      refine T_iconst dX3_areAlike_78 ic_1 ?_
      refine T_goto (tgt := 83) dX3_areAlike_79 (by decide) ?_
      obtain rfl := sm1 h
      exact T_zret dX3_areAlike_83 (Or.inr rfl) ⟨rfl, rfl, rfl, rfl⟩
  · have h := it_neg hc h
    refine T_iconst dX3_areAlike_11 ic_0 ?_
    obtain rfl := sm1 h
    exact T_zret dX3_areAlike_12 (Or.inl rfl) ⟨rfl, rfl, rfl, rfl⟩
def F_X3_matches (M : Mem) (p0 : Nat) (p1 : Nat) (x2 : Int32) (p3 : Nat) (x4 : Int32) : Option (Int32) :=
 bd1 (F_X1_bitsOf M p1 x2) fun r_1 => bd1 (F_X1_bitsOf M p3 x4) fun r_3 => if (gI M p0 0) = 1 then if r_1 = r_3 then some 1
 else some 0
 else if (gI M p0 0) = (nI 2) then bd1 (F_X3_areAlike M p0 r_1 r_3 0) fun r_5 => chk (r_5 = 0 ∨ r_5 = 1) (some r_5)
 else if (gI M p0 0) = (nI 3) then bd1 (F_X1_volumeOf M p1 r_1) fun r_8 => bd1 (F_X1_volumeOf M p3 r_3) fun r_10 => if r_8 = r_10 then some 1
 else some 0
 else if (gI M p0 0) = (nI 4) then bd1 (F_X3_areAlike M p0 r_1 r_3 (nI 3)) fun r_12 => chk (r_12 = 0 ∨ r_12 = 1) (some r_12)
 else if (gI M p0 0) = (nI 5) then bd1 (F_X1_volumeOf M p1 r_1) fun r_15 => bd1 (F_X1_volumeOf M p3 r_3) fun r_17 => if r_15 = r_17 then bd1 (F_X1_bottomOf M p1 r_1) fun r_19 => bd1 (F_X1_bottomOf M p3 r_3) fun r_21 => if r_19 = r_21 then some 1
 else some 0
 else some 0
 else if (r_1 &&& r_3) = 0 then some 0
 else some 1
set_option maxRecDepth 100000 in
set_option maxHeartbeats 4000000 in
theorem m_X3_matches (lw : Nat → Option Nat) (tl : Option Nat) (tt : Option Nat) (M : Mem) (p0 : Nat) (p1 : Nat) (x2 : Int32) (p3 : Nat) (x4 : Int32) (h0 : isX3 p0 = true) (h1 : isX1 p1 = true) (h3 : isX1 p3 = true) (r : Int32) (h : F_X3_matches M p0 p1 x2 p3 x4 = some r) : Cal yX3_matches cX3_matches 7 (some .boolean) 0 3 0 0 false [vR (some p0), vR (some p1), vI x2, vR (some p3), vI x4] LAYC (rfs lw tl tt) M (eqp (vI r) LAYC (rfs lw tl tt) M) := by
  refine Cal.of (by decide +kernel) (Nat.le_of_ble_eq_true rfl) (fun h => by cases h) ?_
  unfold F_X3_matches at h
  show T RX3 cX3_matches 7 (some .boolean) 0 3 0 0 false (eqp (vI r) LAYC (rfs lw tl tt) M) 0 [aR (some p0), aR (some p1), aI x2, aR (some p3), aI x4, aU, aU] [] LAYC (rfs lw tl tt) M 0 0
  refine T_aload_n dX3_matches_0 rfl ?_
  refine T_iload_n dX3_matches_1 rfl ?_
  obtain ⟨r_1, hc_2, h⟩ := bd1_some h
  refine T_cvi (as := [vI x2]) dX3_matches_2 cw_X1_bitsOf ml_X3_23 mi_X1_bitsOf se_X1_bitsOf (lyX1 h1) rfl (by decide) rfl (Nat.le_of_ble_eq_true rfl) (Nat.le_of_ble_eq_true rfl) (m_X1_bitsOf lw tl tt M p1 x2 h1 _ hc_2) ?_
  refine T_istore (i := 5) (L' := [aR (some p0), aR (some p1), aI x2, aR (some p3), aI x4, aI r_1, aU]) dX3_matches_5 (Nat.le_of_ble_eq_true rfl) rfl ?_
  refine T_aload_n dX3_matches_7 rfl ?_
  refine T_iload dX3_matches_8 rfl ?_
  obtain ⟨r_3, hc_4, h⟩ := bd1_some h
  refine T_cvi (as := [vI x4]) dX3_matches_10 cw_X1_bitsOf ml_X3_23 mi_X1_bitsOf se_X1_bitsOf (lyX1 h3) rfl (by decide) rfl (Nat.le_of_ble_eq_true rfl) (Nat.le_of_ble_eq_true rfl) (m_X1_bitsOf lw tl tt M p3 x4 h3 _ hc_4) ?_
  refine T_istore (i := 6) (L' := [aR (some p0), aR (some p1), aI x2, aR (some p3), aI x4, aI r_1, aI r_3]) dX3_matches_13 (Nat.le_of_ble_eq_true rfl) rfl ?_
  refine T_aload_n dX3_matches_15 rfl ?_
  refine T_getI dX3_matches_16 clOK_X3 fl_X3_9 (lyX3 h0) rfl ?_
  by_cases hs1 : (gI M p0 0) = 1
  · have h := it_pos hs1 h
    refine T_eqI hs1 ?_
    refine T_tabIn (off := 33) (tgt := 52) dX3_matches_19 (by decide) (by decide) (by decide) (by decide) ?_
    refine T_iload dX3_matches_52 rfl ?_
    refine T_iload dX3_matches_54 rfl ?_
    refine T_icmp_ne (tgt := 63) dX3_matches_56 (by decide) (fun hc => ?_) (fun hc => ?_)
    · have h := it_neg hc h
      refine T_iconst dX3_matches_63 ic_0 ?_
      obtain rfl := sm1 h
      exact T_zret dX3_matches_64 (Or.inl rfl) ⟨rfl, rfl, rfl, rfl⟩
    · have h := it_pos hc h
      refine T_iconst dX3_matches_59 ic_1 ?_
      refine T_goto (tgt := 64) dX3_matches_60 (by decide) ?_
      obtain rfl := sm1 h
      exact T_zret dX3_matches_64 (Or.inr rfl) ⟨rfl, rfl, rfl, rfl⟩
  · have h := it_neg hs1 h
    by_cases hs2 : (gI M p0 0) = (nI 2)
    · have h := it_pos hs2 h
      refine T_eqI hs2 ?_
      refine T_tabIn (off := 46) (tgt := 65) dX3_matches_19 (by decide) (by decide) (by decide) (by decide) ?_
      refine T_aload_n dX3_matches_65 rfl ?_
      refine T_iload dX3_matches_66 rfl ?_
      refine T_iload dX3_matches_68 rfl ?_
      refine T_iconst dX3_matches_70 ic_0 ?_
      obtain ⟨r_5, hc_6, h⟩ := bd1_some h
      refine T_cvi (as := [vI r_1, vI r_3, vI 0]) dX3_matches_71 cw_X3_areAlike ml_X3_29 mi_X3_areAlike se_X3_areAlike (lyX3 h0) rfl (by decide) rfl (Nat.le_of_ble_eq_true rfl) (Nat.le_of_ble_eq_true rfl) (m_X3_areAlike lw tl tt M p0 r_1 r_3 0 h0 _ hc_6) ?_
      obtain ⟨hb_7, h⟩ := chk_some h
      obtain rfl := sm1 h
      exact T_zret dX3_matches_74 hb_7 ⟨rfl, rfl, rfl, rfl⟩
    · have h := it_neg hs2 h
      by_cases hs3 : (gI M p0 0) = (nI 3)
      · have h := it_pos hs3 h
        refine T_eqI hs3 ?_
        refine T_tabIn (off := 66) (tgt := 85) dX3_matches_19 (by decide) (by decide) (by decide) (by decide) ?_
        refine T_aload_n dX3_matches_85 rfl ?_
        refine T_iload dX3_matches_86 rfl ?_
        obtain ⟨r_8, hc_9, h⟩ := bd1_some h
        refine T_cvi (as := [vI r_1]) dX3_matches_88 cw_X1_volumeOf ml_X3_33 mi_X1_volumeOf se_X1_volumeOf (lyX1 h1) rfl (by decide) rfl (Nat.le_of_ble_eq_true rfl) (Nat.le_of_ble_eq_true rfl) (m_X1_volumeOf lw tl tt M p1 r_1 h1 _ hc_9) ?_
        refine T_aload_n dX3_matches_91 rfl ?_
        refine T_iload dX3_matches_92 rfl ?_
        obtain ⟨r_10, hc_11, h⟩ := bd1_some h
        refine T_cvi (as := [vI r_3]) dX3_matches_94 cw_X1_volumeOf ml_X3_33 mi_X1_volumeOf se_X1_volumeOf (lyX1 h3) rfl (by decide) rfl (Nat.le_of_ble_eq_true rfl) (Nat.le_of_ble_eq_true rfl) (m_X1_volumeOf lw tl tt M p3 r_3 h3 _ hc_11) ?_
        refine T_icmp_ne (tgt := 104) dX3_matches_97 (by decide) (fun hc => ?_) (fun hc => ?_)
        · have h := it_neg hc h
          refine T_iconst dX3_matches_104 ic_0 ?_
          obtain rfl := sm1 h
          exact T_zret dX3_matches_105 (Or.inl rfl) ⟨rfl, rfl, rfl, rfl⟩
        · have h := it_pos hc h
          refine T_iconst dX3_matches_100 ic_1 ?_
          refine T_goto (tgt := 105) dX3_matches_101 (by decide) ?_
          obtain rfl := sm1 h
          exact T_zret dX3_matches_105 (Or.inr rfl) ⟨rfl, rfl, rfl, rfl⟩
      · have h := it_neg hs3 h
        by_cases hs4 : (gI M p0 0) = (nI 4)
        · have h := it_pos hs4 h
          refine T_eqI hs4 ?_
          refine T_tabIn (off := 56) (tgt := 75) dX3_matches_19 (by decide) (by decide) (by decide) (by decide) ?_
          refine T_aload_n dX3_matches_75 rfl ?_
          refine T_iload dX3_matches_76 rfl ?_
          refine T_iload dX3_matches_78 rfl ?_
          refine T_iconst dX3_matches_80 ic_3 ?_
          obtain ⟨r_12, hc_13, h⟩ := bd1_some h
          refine T_cvi (as := [vI r_1, vI r_3, vI (nI 3)]) dX3_matches_81 cw_X3_areAlike ml_X3_29 mi_X3_areAlike se_X3_areAlike (lyX3 h0) rfl (by decide) rfl (Nat.le_of_ble_eq_true rfl) (Nat.le_of_ble_eq_true rfl) (m_X3_areAlike lw tl tt M p0 r_1 r_3 (nI 3) h0 _ hc_13) ?_
          obtain ⟨hb_14, h⟩ := chk_some h
          obtain rfl := sm1 h
          exact T_zret dX3_matches_84 hb_14 ⟨rfl, rfl, rfl, rfl⟩
        · have h := it_neg hs4 h
          by_cases hs5 : (gI M p0 0) = (nI 5)
          · have h := it_pos hs5 h
            refine T_eqI hs5 ?_
            refine T_tabIn (off := 87) (tgt := 106) dX3_matches_19 (by decide) (by decide) (by decide) (by decide) ?_
            refine T_aload_n dX3_matches_106 rfl ?_
            refine T_iload dX3_matches_107 rfl ?_
            obtain ⟨r_15, hc_16, h⟩ := bd1_some h
            refine T_cvi (as := [vI r_1]) dX3_matches_109 cw_X1_volumeOf ml_X3_33 mi_X1_volumeOf se_X1_volumeOf (lyX1 h1) rfl (by decide) rfl (Nat.le_of_ble_eq_true rfl) (Nat.le_of_ble_eq_true rfl) (m_X1_volumeOf lw tl tt M p1 r_1 h1 _ hc_16) ?_
            refine T_aload_n dX3_matches_112 rfl ?_
            refine T_iload dX3_matches_113 rfl ?_
            obtain ⟨r_17, hc_18, h⟩ := bd1_some h
            refine T_cvi (as := [vI r_3]) dX3_matches_115 cw_X1_volumeOf ml_X3_33 mi_X1_volumeOf se_X1_volumeOf (lyX1 h3) rfl (by decide) rfl (Nat.le_of_ble_eq_true rfl) (Nat.le_of_ble_eq_true rfl) (m_X1_volumeOf lw tl tt M p3 r_3 h3 _ hc_18) ?_
            refine T_icmp_ne (tgt := 140) dX3_matches_118 (by decide) (fun hc => ?_) (fun hc => ?_)
            · have h := it_neg hc h
              refine T_iconst dX3_matches_140 ic_0 ?_
              obtain rfl := sm1 h
              exact T_zret dX3_matches_141 (Or.inl rfl) ⟨rfl, rfl, rfl, rfl⟩
            · have h := it_pos hc h
              refine T_aload_n dX3_matches_121 rfl ?_
              refine T_iload dX3_matches_122 rfl ?_
              obtain ⟨r_19, hc_20, h⟩ := bd1_some h
              refine T_cvi (as := [vI r_1]) dX3_matches_124 cw_X1_bottomOf ml_X3_36 mi_X1_bottomOf se_X1_bottomOf (lyX1 h1) rfl (by decide) rfl (Nat.le_of_ble_eq_true rfl) (Nat.le_of_ble_eq_true rfl) (m_X1_bottomOf lw tl tt M p1 r_1 h1 _ hc_20) ?_
              refine T_aload_n dX3_matches_127 rfl ?_
              refine T_iload dX3_matches_128 rfl ?_
              obtain ⟨r_21, hc_22, h⟩ := bd1_some h
              refine T_cvi (as := [vI r_3]) dX3_matches_130 cw_X1_bottomOf ml_X3_36 mi_X1_bottomOf se_X1_bottomOf (lyX1 h3) rfl (by decide) rfl (Nat.le_of_ble_eq_true rfl) (Nat.le_of_ble_eq_true rfl) (m_X1_bottomOf lw tl tt M p3 r_3 h3 _ hc_22) ?_
              refine T_icmp_ne (tgt := 140) dX3_matches_133 (by decide) (fun hc => ?_) (fun hc => ?_)
              · have h := it_neg hc h
                refine T_iconst dX3_matches_140 ic_0 ?_
                obtain rfl := sm1 h
                exact T_zret dX3_matches_141 (Or.inl rfl) ⟨rfl, rfl, rfl, rfl⟩
              · have h := it_pos hc h
                refine T_iconst dX3_matches_136 ic_1 ?_
                refine T_goto (tgt := 141) dX3_matches_137 (by decide) ?_
                obtain rfl := sm1 h
                exact T_zret dX3_matches_141 (Or.inr rfl) ⟨rfl, rfl, rfl, rfl⟩
          · have h := it_neg hs5 h
            refine T_tabOut (tgt := 142) dX3_matches_19 (sw_out (fun k a b => by rcases (show k = 1 ∨ k = 2 ∨ k = 3 ∨ k = 4 ∨ k = 5 by omega) with rfl | rfl | rfl | rfl | rfl <;> first | exact fun e => hs1 (e.trans (by decide)) | exact fun e => hs2 (e.trans (by decide)) | exact fun e => hs3 (e.trans (by decide)) | exact fun e => hs4 (e.trans (by decide)) | exact fun e => hs5 (e.trans (by decide)))) (by decide) ?_
            refine T_iload dX3_matches_142 rfl ?_
            refine T_iload dX3_matches_144 rfl ?_
            refine T_iand dX3_matches_146 ?_
            refine T_if_eq (tgt := 154) dX3_matches_147 (by decide) (fun hc => ?_) (fun hc => ?_)
            · have h := it_pos hc h
              refine T_iconst dX3_matches_154 ic_0 ?_
              obtain rfl := sm1 h
              exact T_zret dX3_matches_155 (Or.inl rfl) ⟨rfl, rfl, rfl, rfl⟩
            · have h := it_neg hc h
              refine T_iconst dX3_matches_150 ic_1 ?_
              refine T_goto (tgt := 155) dX3_matches_151 (by decide) ?_
              obtain rfl := sm1 h
              exact T_zret dX3_matches_155 (Or.inr rfl) ⟨rfl, rfl, rfl, rfl⟩
