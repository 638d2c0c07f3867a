def F_X8_fill (M : Mem) (x1 : Int32) : Option (Int32 × Mem) :=
 bd1 (F_X2_has M x1) fun r_1 => if r_1 = 0 then some ((-1), M)
 else bd1 (F_X1_bears M 9 x1 (-1)) fun r_3 => if r_3 = 0 then some ((-4), M)
 else if 0 < (gI M 9 6) then bd1 (F_X0_areFull M) fun r_5 => if r_5 = 0 then bd1 (F_X0_perform M 9 (ish 1 x1) (-1) (-1)) fun M_7 => bd1 (F_X1_depthAt M_7 9 x1) fun r_9 => some (r_9, M_7)
 else some ((-2), M)
 else some ((-4), M)
set_option maxRecDepth 100000 in
set_option maxHeartbeats 4000000 in
theorem m_X8_fill (lw : Nat → Option Nat) (tl : Option Nat) (tt : Option Nat) (M : Mem) (x1 : Int32) (r : Int32) (M' : Mem) (h : F_X8_fill M x1 = some (r, M')) : Cal yX8_fill cX8_fill 2 (some .int) 0 6 0 0 false [vR (some 0), vI x1] LAYC (rfs lw tl tt) M (eqp (vI r) LAYC (rfs lw tl tt) M') := by
  refine Cal.of (by decide +kernel) (Nat.le_of_ble_eq_true rfl) (fun h => by cases h) ?_
  unfold F_X8_fill at h
  show T RX8 cX8_fill 2 (some .int) 0 6 0 0 false (eqp (vI r) LAYC (rfs lw tl tt) M') 0 [aR (some 0), aI x1] [] LAYC (rfs lw tl tt) M 0 0
  refine T_aload_n dX8_fill_0 rfl ?_
  refine T_getR dX8_fill_1 clOK_X8 fl_X8_28 lyC_0 rfl rfl ?_
  refine T_iload_n dX8_fill_4 rfl ?_
  obtain ⟨r_1, hc_2, h⟩ := bd1_some h
  refine T_cvi (as := [vI x1]) dX8_fill_5 cw_X2_has ml_X8_167 mi_X2_has se_X2_has lyC_7 rfl (by decide) rfl (Nat.le_of_ble_eq_true rfl) (Nat.le_of_ble_eq_true rfl) (m_X2_has lw tl tt M x1  _ hc_2) ?_
  refine T_if_ne (tgt := 13) dX8_fill_8 (by decide) (fun hc => ?_) (fun hc => ?_)
  · have h := it_neg hc h
    refine T_aload_n dX8_fill_13 rfl ?_
    refine T_getR dX8_fill_14 clOK_X8 fl_X8_37 lyC_0 rfl rfl ?_
    refine T_iload_n dX8_fill_17 rfl ?_
    refine T_iconst dX8_fill_18 ic_m1 ?_
    obtain ⟨r_3, hc_4, h⟩ := bd1_some h
    refine T_cvi (as := [vI x1, vI (-1)]) dX8_fill_19 cw_X1_bears ml_X8_193 mi_X1_bears se_X1_bears lyC_9 rfl (by decide) rfl (Nat.le_of_ble_eq_true rfl) (Nat.le_of_ble_eq_true rfl) (m_X1_bears lw tl tt M 9 x1 (-1) rfl _ hc_4) ?_
    refine T_if_eq (tgt := 35) dX8_fill_22 (by decide) (fun hc => ?_) (fun hc => ?_)
    · have h := it_pos hc h
      refine T_bipush dX8_fill_35 bp_m4 ?_
      obtain ⟨rfl, rfl⟩ := sm2 h
      exact T_iret dX8_fill_37 ⟨rfl, rfl, rfl, rfl⟩
    · have h := it_neg hc h
      refine T_aload_n dX8_fill_25 rfl ?_
      refine T_getR dX8_fill_26 clOK_X8 fl_X8_37 lyC_0 rfl rfl ?_
      refine T_getI dX8_fill_29 clOK_X1 fl_X8_206 lyC_9 rfl ?_
      refine T_if_gt (tgt := 38) dX8_fill_32 (by decide) (fun hc => ?_) (fun hc => ?_)
      · have h := it_pos hc h
        refine T_aload_n dX8_fill_38 rfl ?_
        refine T_getR dX8_fill_39 clOK_X8 fl_X8_61 lyC_0 rfl rfl ?_
        obtain ⟨r_5, hc_6, h⟩ := bd1_some h
        refine T_cvi (as := []) dX8_fill_42 cw_X0_areFull ml_X8_196 mi_X0_areFull se_X0_areFull lyC_15 rfl (by decide) rfl (Nat.le_of_ble_eq_true rfl) (Nat.le_of_ble_eq_true rfl) (m_X0_areFull lw tl tt M  _ hc_6) ?_
        refine T_if_eq (tgt := 51) dX8_fill_45 (by decide) (fun hc => ?_) (fun hc => ?_)
        · have h := it_pos hc h
          refine T_aload_n dX8_fill_51 rfl ?_
          refine T_getR dX8_fill_52 clOK_X8 fl_X8_61 lyC_0 rfl rfl ?_
          refine T_aload_n dX8_fill_55 rfl ?_
          refine T_getR dX8_fill_56 clOK_X8 fl_X8_37 lyC_0 rfl rfl ?_
          refine T_iconst dX8_fill_59 ic_1 ?_
          refine T_iload_n dX8_fill_60 rfl ?_
          refine T_ishl dX8_fill_61 ?_
          refine T_iconst dX8_fill_62 ic_m1 ?_
          refine T_iconst dX8_fill_63 ic_m1 ?_
          obtain ⟨M_7, hc_8, h⟩ := bd1_some h
          refine T_cvv (as := [vR (some 9), vI (ish 1 x1), vI (-1), vI (-1)]) dX8_fill_64 cw_X0_perform ml_X8_199 mi_X0_perform se_X0_perform lyC_15 rfl (by decide) rfl (Nat.le_of_ble_eq_true rfl) (Nat.le_of_ble_eq_true rfl) (m_X0_perform lw tl tt M 9 (ish 1 x1) (-1) (-1) rfl _ hc_8) ?_
          refine T_aload_n dX8_fill_67 rfl ?_
          refine T_getR dX8_fill_68 clOK_X8 fl_X8_37 lyC_0 rfl rfl ?_
          refine T_iload_n dX8_fill_71 rfl ?_
          obtain ⟨r_9, hc_10, h⟩ := bd1_some h
          refine T_cvi (as := [vI x1]) dX8_fill_72 cw_X1_depthAt ml_X8_203 mi_X1_depthAt se_X1_depthAt lyC_9 rfl (by decide) rfl (Nat.le_of_ble_eq_true rfl) (Nat.le_of_ble_eq_true rfl) (m_X1_depthAt lw tl tt M_7 9 x1 rfl _ hc_10) ?_
          obtain ⟨rfl, rfl⟩ := sm2 h
          exact T_iret dX8_fill_75 ⟨rfl, rfl, rfl, rfl⟩
        · have h := it_neg hc h
          refine T_bipush dX8_fill_48 bp_m2 ?_
          obtain ⟨rfl, rfl⟩ := sm2 h
          exact T_iret dX8_fill_50 ⟨rfl, rfl, rfl, rfl⟩
      · have h := it_neg hc h
        refine T_bipush dX8_fill_35 bp_m4 ?_
        obtain ⟨rfl, rfl⟩ := sm2 h
        exact T_iret dX8_fill_37 ⟨rfl, rfl, rfl, rfl⟩
  · have h := it_pos hc h
    refine T_iconst dX8_fill_11 ic_m1 ?_
    obtain ⟨rfl, rfl⟩ := sm2 h
    exact T_iret dX8_fill_12 ⟨rfl, rfl, rfl, rfl⟩
def X8_rainedOn_L9 (M : Mem) (x1 : Int32) : Int32 × Int64 × Int32 → Option ((Int32 × Int64 × Int32) ⊕ (Int32))
  | (x3, x4, x6) =>
    if (gI M 7 0) ≤ x6 then some (.inr x3)
    else bd1 (F_X1_depthAt M 9 x6) fun r_3 => if r_3 ≤ 0 then lett (x6 + 1) fun x_5 => some (.inl (x3, x4, x_5))
    else lett (lrm (x4 * 48271) 2147483647) fun x_7 => if 0 ≤ (lg_cmp (lrm x_7 12) x1.toInt64) then lett (x6 + 1) fun x_9 => some (.inl (x3, x_7, x_9))
    else lett (x3 ||| (ish 1 x6)) fun x_11 => lett (x6 + 1) fun x_13 => some (.inl (x_11, x_7, x_13))
def F_X8_rainedOn (M : Mem) (x1 : Int32) (x2 : Int32) : Option (Int32) :=
 lett (x2.toInt64) fun x_1 => loop (X8_rainedOn_L9 M x1) FU (0, x_1, 0)
set_option maxRecDepth 100000 in
set_option maxHeartbeats 4000000 in
theorem s_X8_rainedOn_L9 (lw : Nat → Option Nat) (tl : Option Nat) (tt : Option Nat) (M : Mem) (x1 : Int32) (x3 : Int32) (x4 : Int64) (x6 : Int32) {Po : Po_} (x : (Int32 × Int64 × Int32) ⊕ (Int32)) (h : X8_rainedOn_L9 M x1 (x3, x4, x6) = some x) (hI : ∀ (ix3 : Int32) (ix4 : Int64) (ix6 : Int32), x = .inl (ix3, ix4, ix6) → T RX8 cX8_rainedOn 7 (some .int) 0 2 0 0 false Po 9 [aR (some 0), aI x1, aU, aI ix3, aJ ix4, aU, aI ix6] [] LAYC (rfs lw tl tt) M 0 0) (hE0 : ∀ (er : Int32), x = .inr er → Po (vI er) LAYC (rfs lw tl tt) M) : T RX8 cX8_rainedOn 7 (some .int) 0 2 0 0 false Po 9 [aR (some 0), aI x1, aU, aI x3, aJ x4, aU, aI x6] [] LAYC (rfs lw tl tt) M 0 0 := by
  unfold X8_rainedOn_L9 at h
  simp only at h
  refine T_iload dX8_rainedOn_9 rfl ?_
  refine T_aload_n dX8_rainedOn_11 rfl ?_
  refine T_getR dX8_rainedOn_12 clOK_X8 fl_X8_28 lyC_0 rfl rfl ?_
  refine T_getI dX8_rainedOn_15 clOK_X2 fl_X8_164 lyC_7 rfl ?_
  refine T_icmp_ge (tgt := 70) dX8_rainedOn_18 (by decide) (fun hc => ?_) (fun hc => ?_)
  · have h := it_pos hc h
    refine T_iload_n dX8_rainedOn_70 rfl ?_
    obtain rfl := sm1 h
    exact T_iret dX8_rainedOn_71 (hE0 _ rfl)
  · have h := it_neg hc h
    refine T_aload_n dX8_rainedOn_21 rfl ?_
    refine T_getR dX8_rainedOn_22 clOK_X8 fl_X8_37 lyC_0 rfl rfl ?_
    refine T_iload dX8_rainedOn_25 rfl ?_
    obtain ⟨r_3, hc_4, h⟩ := bd1_some h
    refine T_cvi (as := [vI x6]) dX8_rainedOn_27 cw_X1_depthAt ml_X8_203 mi_X1_depthAt se_X1_depthAt lyC_9 rfl (by decide) rfl (Nat.le_of_ble_eq_true rfl) (Nat.le_of_ble_eq_true rfl) (m_X1_depthAt lw tl tt M 9 x6 rfl _ hc_4) ?_
    refine T_if_le (tgt := 64) dX8_rainedOn_30 (by decide) (fun hc => ?_) (fun hc => ?_)
    · have h := it_pos hc h
      obtain ⟨x_5, ex_6, h⟩ := lett_some h
      refine T_iinc (L' := [aR (some 0), aI x1, aU, aI x3, aJ x4, aU, aI x_5]) dX8_rainedOn_64 rfl (ic_inc ic_1 ex_6) (Nat.le_of_ble_eq_true rfl) rfl ?_
      refine T_goto (tgt := 9) dX8_rainedOn_67 (by decide) ?_
      obtain rfl := sm1 h
      exact hI _ _ _ rfl
    · have h := it_neg hc h
      refine T_lload dX8_rainedOn_33 rfl ?_
      refine T_ldc2 dX8_rainedOn_35 kl_X8_392 ?_
      refine T_lmul dX8_rainedOn_38 ?_
      refine T_ldc2 dX8_rainedOn_39 kl_X8_394 ?_
      refine T_lrem dX8_rainedOn_42 (by decide) ?_
      obtain ⟨x_7, ex_8, h⟩ := lett_some h
      refine T_topJ ex_8 ?_
      refine T_lstore (i := 4) (L' := [aR (some 0), aI x1, aU, aI x3, aJ x_7, aU, aI x6]) dX8_rainedOn_43 (Nat.le_of_ble_eq_true rfl) rfl ?_
      refine T_lload dX8_rainedOn_45 rfl ?_
      refine T_ldc2 dX8_rainedOn_47 kl_X8_333 ?_
      refine T_lrem dX8_rainedOn_50 (by decide) ?_
      refine T_iload_n dX8_rainedOn_51 rfl ?_
      refine T_i2l dX8_rainedOn_52 ?_
      refine T_lcmp dX8_rainedOn_53 ?_
      refine T_if_ge (tgt := 64) dX8_rainedOn_54 (by decide) (fun hc => ?_) (fun hc => ?_)
      · have h := it_pos hc h
        obtain ⟨x_9, ex_10, h⟩ := lett_some h
        refine T_iinc (L' := [aR (some 0), aI x1, aU, aI x3, aJ x_7, aU, aI x_9]) dX8_rainedOn_64 rfl (ic_inc ic_1 ex_10) (Nat.le_of_ble_eq_true rfl) rfl ?_
        refine T_goto (tgt := 9) dX8_rainedOn_67 (by decide) ?_
        obtain rfl := sm1 h
        exact hI _ _ _ rfl
      · have h := it_neg hc h
        refine T_iload_n dX8_rainedOn_57 rfl ?_
        refine T_iconst dX8_rainedOn_58 ic_1 ?_
        refine T_iload dX8_rainedOn_59 rfl ?_
        refine T_ishl dX8_rainedOn_61 ?_
        refine T_ior dX8_rainedOn_62 ?_
        obtain ⟨x_11, ex_12, h⟩ := lett_some h
        refine T_topI ex_12 ?_
        refine T_istore_n (i := 3) (L' := [aR (some 0), aI x1, aU, aI x_11, aJ x_7, aU, aI x6]) dX8_rainedOn_63 rfl (Nat.le_of_ble_eq_true rfl) rfl ?_
        obtain ⟨x_13, ex_14, h⟩ := lett_some h
        refine T_iinc (L' := [aR (some 0), aI x1, aU, aI x_11, aJ x_7, aU, aI x_13]) dX8_rainedOn_64 rfl (ic_inc ic_1 ex_14) (Nat.le_of_ble_eq_true rfl) rfl ?_
        refine T_goto (tgt := 9) dX8_rainedOn_67 (by decide) ?_
        obtain rfl := sm1 h
        exact hI _ _ _ rfl
set_option maxRecDepth 100000 in
set_option maxHeartbeats 4000000 in
theorem l_X8_rainedOn_L9 (lw : Nat → Option Nat) (tl : Option Nat) (tt : Option Nat) (M : Mem) (x1 : Int32) {Po : Po_} (er : Int32) : ∀ (k : Nat) (x3 : Int32) (x4 : Int64) (x6 : Int32), loop (X8_rainedOn_L9 M x1) k (x3, x4, x6) = some er → (Po (vI er) LAYC (rfs lw tl tt) M) → T RX8 cX8_rainedOn 7 (some .int) 0 2 0 0 false Po 9 [aR (some 0), aI x1, aU, aI x3, aJ x4, aU, aI x6] [] LAYC (rfs lw tl tt) M 0 0 := by
  intro k
  induction k with
  | zero => intro x3 x4 x6 h; cases h
  | succ k ih =>
    intro x3 x4 x6 h hE
    obtain ⟨x, hx, hx1, hx2⟩ := loop_succ h
    exact s_X8_rainedOn_L9  lw tl tt M x1  x3 x4 x6 x hx (fun q0 q1 q2 e => ih q0 q1 q2 (hx1 _ e) hE) (fun q0 e => by cases hx2 _ e; exact hE)
set_option maxRecDepth 100000 in
set_option maxHeartbeats 4000000 in
theorem m_X8_rainedOn (lw : Nat → Option Nat) (tl : Option Nat) (tt : Option Nat) (M : Mem) (x1 : Int32) (x2 : Int32) (r : Int32) (h : F_X8_rainedOn M x1 x2 = some r) : Cal yX8_rainedOn cX8_rainedOn 7 (some .int) 0 2 0 0 false [vR (some 0), vI x1, vI x2] LAYC (rfs lw tl tt) M (eqp (vI r) LAYC (rfs lw tl tt) M) := by
  refine Cal.of (by decide +kernel) (Nat.le_of_ble_eq_true rfl) (fun h => by cases h) ?_
  unfold F_X8_rainedOn at h
  show T RX8 cX8_rainedOn 7 (some .int) 0 2 0 0 false (eqp (vI r) LAYC (rfs lw tl tt) M) 0 [aR (some 0), aI x1, aI x2, aU, aU, aU, aU] [] LAYC (rfs lw tl tt) M 0 0
  refine T_iconst dX8_rainedOn_0 ic_0 ?_
  refine T_istore_n (i := 3) (L' := [aR (some 0), aI x1, aI x2, aI 0, aU, aU, aU]) dX8_rainedOn_1 rfl (Nat.le_of_ble_eq_true rfl) rfl ?_
  refine T_iload_n dX8_rainedOn_2 rfl ?_
  refine T_i2l dX8_rainedOn_3 ?_
  obtain ⟨x_1, ex_2, h⟩ := lett_some h
  refine T_topJ ex_2 ?_
  refine T_lstore (i := 4) (L' := [aR (some 0), aI x1, aI x2, aI 0, aJ x_1, aU, aU]) dX8_rainedOn_4 (Nat.le_of_ble_eq_true rfl) rfl ?_
  refine T_iconst dX8_rainedOn_6 ic_0 ?_
  refine T_istore (i := 6) (L' := [aR (some 0), aI x1, aI x2, aI 0, aJ x_1, aU, aI 0]) dX8_rainedOn_7 (Nat.le_of_ble_eq_true rfl) rfl ?_
  refine T_mask [true, true, false, true, true, true, true] rfl ?_
  exact l_X8_rainedOn_L9  lw tl tt M x1  _ FU 0 x_1 0 h ⟨rfl, rfl, rfl, rfl⟩
def F_X8_rain (M : Mem) (x1 : Int32) (x2 : Int32) : Option (Int32 × Mem) :=
 if x1 < 0 then some ((-1), M)
 else if (nI 12) < x1 then some ((-1), M)
 else if x2 < 1 then some ((-1), M)
 else if x2 < 2147483647 then if (gI M 9 7) = 0 then some ((-4), M)
 else bd1 (F_X0_areFull M) fun r_1 => if r_1 = 0 then bd1 (F_X8_rainedOn M x1 x2) fun r_3 => bd1 (F_X0_perform M 9 r_3 (-1) 0) fun M_5 => some (gI M_5 9 3, M_5)
 else some ((-2), M)
 else some ((-1), M)
set_option maxRecDepth 100000 in
set_option maxHeartbeats 4000000 in
theorem m_X8_rain (lw : Nat → Option Nat) (tl : Option Nat) (tt : Option Nat) (M : Mem) (x1 : Int32) (x2 : Int32) (r : Int32) (M' : Mem) (h : F_X8_rain M x1 x2 = some (r, M')) : Cal yX8_rain cX8_rain 3 (some .int) 0 6 0 0 false [vR (some 0), vI x1, vI x2] LAYC (rfs lw tl tt) M (eqp (vI r) LAYC (rfs lw tl tt) M') := by
  refine Cal.of (by decide +kernel) (Nat.le_of_ble_eq_true rfl) (fun h => by cases h) ?_
  unfold F_X8_rain at h
  show T RX8 cX8_rain 3 (some .int) 0 6 0 0 false (eqp (vI r) LAYC (rfs lw tl tt) M') 0 [aR (some 0), aI x1, aI x2] [] LAYC (rfs lw tl tt) M 0 0
  refine T_iload_n dX8_rain_0 rfl ?_
  refine T_if_lt (tgt := 21) dX8_rain_1 (by decide) (fun hc => ?_) (fun hc => ?_)
  · have h := it_pos hc h
    refine T_iconst dX8_rain_21 ic_m1 ?_
    obtain ⟨rfl, rfl⟩ := sm2 h
    exact T_iret dX8_rain_22 ⟨rfl, rfl, rfl, rfl⟩
  · have h := it_neg hc h
    refine T_iload_n dX8_rain_4 rfl ?_
    refine T_bipush dX8_rain_5 bp_12 ?_
    refine T_icmp_gt (tgt := 21) dX8_rain_7 (by decide) (fun hc => ?_) (fun hc => ?_)
    · have h := it_pos hc h
      refine T_iconst dX8_rain_21 ic_m1 ?_
      obtain ⟨rfl, rfl⟩ := sm2 h
      exact T_iret dX8_rain_22 ⟨rfl, rfl, rfl, rfl⟩
    · have h := it_neg hc h
      refine T_iload_n dX8_rain_10 rfl ?_
      refine T_iconst dX8_rain_11 ic_1 ?_
      refine T_icmp_lt (tgt := 21) dX8_rain_12 (by decide) (fun hc => ?_) (fun hc => ?_)
      · have h := it_pos hc h
        refine T_iconst dX8_rain_21 ic_m1 ?_
        obtain ⟨rfl, rfl⟩ := sm2 h
        exact T_iret dX8_rain_22 ⟨rfl, rfl, rfl, rfl⟩
      · have h := it_neg hc h
        refine T_iload_n dX8_rain_15 rfl ?_
        refine T_ldc dX8_rain_16 kc_X8_209 ?_
        refine T_icmp_lt (tgt := 23) dX8_rain_18 (by decide) (fun hc => ?_) (fun hc => ?_)
        · have h := it_pos hc h
          refine T_aload_n dX8_rain_23 rfl ?_
          refine T_getR dX8_rain_24 clOK_X8 fl_X8_37 lyC_0 rfl rfl ?_
          refine T_getZ dX8_rain_27 clOK_X1 fl_X8_210 lyC_9 rfl ?_
          refine T_if_ne (tgt := 36) dX8_rain_30 (by decide) (fun hc => ?_) (fun hc => ?_)
          · have h := it_neg hc h
            refine T_aload_n dX8_rain_36 rfl ?_
            refine T_getR dX8_rain_37 clOK_X8 fl_X8_61 lyC_0 rfl rfl ?_
            obtain ⟨r_1, hc_2, h⟩ := bd1_some h
            refine T_cvi (as := []) dX8_rain_40 cw_X0_areFull ml_X8_196 mi_X0_areFull se_X0_areFull lyC_15 rfl (by decide) rfl (Nat.le_of_ble_eq_true rfl) (Nat.le_of_ble_eq_true rfl) (m_X0_areFull lw tl tt M  _ hc_2) ?_
            refine T_if_eq (tgt := 49) dX8_rain_43 (by decide) (fun hc => ?_) (fun hc => ?_)
            · have h := it_pos hc h
              refine T_aload_n dX8_rain_49 rfl ?_
              refine T_getR dX8_rain_50 clOK_X8 fl_X8_61 lyC_0 rfl rfl ?_
              refine T_aload_n dX8_rain_53 rfl ?_
              refine T_getR dX8_rain_54 clOK_X8 fl_X8_37 lyC_0 rfl rfl ?_
              refine T_aload_n dX8_rain_57 rfl ?_
              refine T_iload_n dX8_rain_58 rfl ?_
              refine T_iload_n dX8_rain_59 rfl ?_
              obtain ⟨r_3, hc_4, h⟩ := bd1_some h
              refine T_cvi (as := [vI x1, vI x2]) dX8_rain_60 cw_X8_rainedOn ml_X8_214 mi_X8_rainedOn se_X8_rainedOn lyC_0 rfl (by decide) rfl (Nat.le_of_ble_eq_true rfl) (Nat.le_of_ble_eq_true rfl) (m_X8_rainedOn lw tl tt M x1 x2  _ hc_4) ?_
              refine T_iconst dX8_rain_63 ic_m1 ?_
              refine T_iconst dX8_rain_64 ic_0 ?_
              obtain ⟨M_5, hc_6, h⟩ := bd1_some h
              refine T_cvv (as := [vR (some 9), vI r_3, vI (-1), vI 0]) dX8_rain_65 cw_X0_perform ml_X8_199 mi_X0_perform se_X0_perform lyC_15 rfl (by decide) rfl (Nat.le_of_ble_eq_true rfl) (Nat.le_of_ble_eq_true rfl) (m_X0_perform lw tl tt M 9 r_3 (-1) 0 rfl _ hc_6) ?_
              refine T_aload_n dX8_rain_68 rfl ?_
              refine T_getR dX8_rain_69 clOK_X8 fl_X8_37 lyC_0 rfl rfl ?_
              refine T_getI dX8_rain_72 clOK_X1 fl_X8_217 lyC_9 rfl ?_
              obtain ⟨rfl, rfl⟩ := sm2 h
              exact T_iret dX8_rain_75 ⟨rfl, rfl, rfl, rfl⟩
            · have h := it_neg hc h
              refine T_bipush dX8_rain_46 bp_m2 ?_
              obtain ⟨rfl, rfl⟩ := sm2 h
              exact T_iret dX8_rain_48 ⟨rfl, rfl, rfl, rfl⟩
          · have h := it_pos hc h
            refine T_bipush dX8_rain_33 bp_m4 ?_
            obtain ⟨rfl, rfl⟩ := sm2 h
            exact T_iret dX8_rain_35 ⟨rfl, rfl, rfl, rfl⟩
        · have h := it_neg hc h
          refine T_iconst dX8_rain_21 ic_m1 ?_
          obtain ⟨rfl, rfl⟩ := sm2 h
          exact T_iret dX8_rain_22 ⟨rfl, rfl, rfl, rfl⟩
def F_X8_undo (M : Mem) (x1 : Int32) : Option (Int32 × Mem) :=
 if x1 < 0 then some ((-1), M)
 else bd1 (F_X0_size M) fun r_1 => if x1 ≤ r_1 then bd2 (F_X0_takeBack M 9 x1) fun r_3 M_4 => some (r_3, M_4)
 else some ((-1), M)
set_option maxRecDepth 100000 in
set_option maxHeartbeats 4000000 in
theorem m_X8_undo (lw : Nat → Option Nat) (tl : Option Nat) (tt : Option Nat) (M : Mem) (x1 : Int32) (r : Int32) (M' : Mem) (h : F_X8_undo M x1 = some (r, M')) : Cal yX8_undo cX8_undo 2 (some .int) 0 6 0 0 false [vR (some 0), vI x1] LAYC (rfs lw tl tt) M (eqp (vI r) LAYC (rfs lw tl tt) M') := by
  refine Cal.of (by decide +kernel) (Nat.le_of_ble_eq_true rfl) (fun h => by cases h) ?_
  unfold F_X8_undo at h
  show T RX8 cX8_undo 2 (some .int) 0 6 0 0 false (eqp (vI r) LAYC (rfs lw tl tt) M') 0 [aR (some 0), aI x1] [] LAYC (rfs lw tl tt) M 0 0
  refine T_iload_n dX8_undo_0 rfl ?_
  refine T_if_lt (tgt := 15) dX8_undo_1 (by decide) (fun hc => ?_) (fun hc => ?_)
  · have h := it_pos hc h
    refine T_iconst dX8_undo_15 ic_m1 ?_
    obtain ⟨rfl, rfl⟩ := sm2 h
    exact T_iret dX8_undo_16 ⟨rfl, rfl, rfl, rfl⟩
  · have h := it_neg hc h
    refine T_iload_n dX8_undo_4 rfl ?_
    refine T_aload_n dX8_undo_5 rfl ?_
    refine T_getR dX8_undo_6 clOK_X8 fl_X8_61 lyC_0 rfl rfl ?_
    obtain ⟨r_1, hc_2, h⟩ := bd1_some h
    refine T_cvi (as := []) dX8_undo_9 cw_X0_size ml_X8_220 mi_X0_size se_X0_size lyC_15 rfl (by decide) rfl (Nat.le_of_ble_eq_true rfl) (Nat.le_of_ble_eq_true rfl) (m_X0_size lw tl tt M  _ hc_2) ?_
    refine T_icmp_le (tgt := 17) dX8_undo_12 (by decide) (fun hc => ?_) (fun hc => ?_)
    · have h := it_pos hc h
      refine T_aload_n dX8_undo_17 rfl ?_
      refine T_getR dX8_undo_18 clOK_X8 fl_X8_61 lyC_0 rfl rfl ?_
      refine T_aload_n dX8_undo_21 rfl ?_
      refine T_getR dX8_undo_22 clOK_X8 fl_X8_37 lyC_0 rfl rfl ?_
      refine T_iload_n dX8_undo_25 rfl ?_
      obtain ⟨r_3, M_4, hc_5, h⟩ := bd2_some h
      refine T_cvi (as := [vR (some 9), vI x1]) dX8_undo_26 cw_X0_takeBack ml_X8_221 mi_X0_takeBack se_X0_takeBack lyC_15 rfl (by decide) rfl (Nat.le_of_ble_eq_true rfl) (Nat.le_of_ble_eq_true rfl) (m_X0_takeBack lw tl tt M 9 x1 rfl _ _ hc_5) ?_
      obtain ⟨rfl, rfl⟩ := sm2 h
      exact T_iret dX8_undo_29 ⟨rfl, rfl, rfl, rfl⟩
    · have h := it_neg hc h
      refine T_iconst dX8_undo_15 ic_m1 ?_
      obtain ⟨rfl, rfl⟩ := sm2 h
      exact T_iret dX8_undo_16 ⟨rfl, rfl, rfl, rfl⟩
def F_X8_imageOf (x1 : Int32) : Option (Option Nat) :=
 if x1 < 0 then some none
 else if (nI 3) ≤ x1 then some none
 else chk (inb x1 3 = true) (lett (finC 12 x1.toNatClampNeg) fun o_2 => some o_2)
set_option maxRecDepth 100000 in
set_option maxHeartbeats 4000000 in
theorem m_X8_imageOf (lw : Nat → Option Nat) (tl : Option Nat) (tt : Option Nat) (M : Mem) (x1 : Int32) (r : Option Nat) (h : F_X8_imageOf x1 = some r) : Cal yX8_imageOf cX8_imageOf 2 (some (.object "HoleMoved$Ground")) 3 1 0 0 false [vR (some 0), vI x1] LAYC (rfs lw tl tt) M (eqp (vR r) LAYC (rfs lw tl tt) M) := by
  refine Cal.of (by decide +kernel) (Nat.le_of_ble_eq_true rfl) (fun h => by cases h) ?_
  unfold F_X8_imageOf at h
  show T RX8 cX8_imageOf 2 (some (.object "HoleMoved$Ground")) 3 1 0 0 false (eqp (vR r) LAYC (rfs lw tl tt) M) 0 [aR (some 0), aI x1] [] LAYC (rfs lw tl tt) M 0 0
  refine T_iload_n dX8_imageOf_0 rfl ?_
  refine T_if_lt (tgt := 22) dX8_imageOf_1 (by decide) (fun hc => ?_) (fun hc => ?_)
  · have h := it_pos hc h
    refine T_null dX8_imageOf_22 ?_
    obtain rfl := sm1 h
    exact T_aret dX8_imageOf_23 ⟨rfl, rfl, rfl, rfl⟩
  · have h := it_neg hc h
    refine T_iload_n dX8_imageOf_4 rfl ?_
    refine T_aload_n dX8_imageOf_5 rfl ?_
    refine T_getR dX8_imageOf_6 clOK_X8 fl_X8_41 lyC_0 rfl rfl ?_
    refine T_alen dX8_imageOf_9 lyC_12 (Or.inr (Or.inr (Or.inl rfl))) rfl ?_
    refine T_icmp_ge (tgt := 22) dX8_imageOf_10 (by decide) (fun hc => ?_) (fun hc => ?_)
    · have h := it_pos hc h
      refine T_null dX8_imageOf_22 ?_
      obtain rfl := sm1 h
      exact T_aret dX8_imageOf_23 ⟨rfl, rfl, rfl, rfl⟩
    · have h := it_neg hc h
      refine T_aload_n dX8_imageOf_13 rfl ?_
      refine T_getR dX8_imageOf_14 clOK_X8 fl_X8_41 lyC_0 rfl rfl ?_
      refine T_iload_n dX8_imageOf_17 rfl ?_
      obtain ⟨hi_1, h⟩ := chk_some h
      obtain ⟨o_2, eo_3, h⟩ := lett_some h
      refine T_aald dX8_imageOf_18 lyC_12 (Or.inl rfl) (inb_in hi_1) (Eq.symm eo_3) ?_
      refine T_goto (tgt := 23) dX8_imageOf_19 (by decide) ?_
      obtain rfl := sm1 h
      exact T_aret dX8_imageOf_23 ⟨rfl, rfl, rfl, rfl⟩
def F_X8_image (M : Mem) (x1 : Int32) : Option (Int32 × Mem) :=
 bd1 (F_X8_imageOf x1) fun o_1 => oc o_1 (some ((-1), M))
 (fun q_3 => if (gI M 9 7) = 0 then some ((-4), M)
 else chk (isX1 q_3 = true) (bd1 (F_X1_become M q_3 9) fun M_5 => some (gI M_5 q_3 3, M_5)))
set_option maxRecDepth 100000 in
set_option maxHeartbeats 4000000 in
theorem m_X8_image (lw : Nat → Option Nat) (tl : Option Nat) (tt : Option Nat) (M : Mem) (x1 : Int32) (r : Int32) (M' : Mem) (h : F_X8_image M x1 = some (r, M')) : Cal yX8_image cX8_image 3 (some .int) 0 2 0 0 false [vR (some 0), vI x1] LAYC (rfs lw tl tt) M (eqp (vI r) LAYC (rfs lw tl tt) M') := by
  refine Cal.of (by decide +kernel) (Nat.le_of_ble_eq_true rfl) (fun h => by cases h) ?_
  unfold F_X8_image at h
  show T RX8 cX8_image 3 (some .int) 0 2 0 0 false (eqp (vI r) LAYC (rfs lw tl tt) M') 0 [aR (some 0), aI x1, aU] [] LAYC (rfs lw tl tt) M 0 0
  refine T_aload_n dX8_image_0 rfl ?_
  refine T_iload_n dX8_image_1 rfl ?_
  obtain ⟨o_1, hc_2, h⟩ := bd1_some h
  refine T_cvq (as := [vI x1]) dX8_image_2 cw_X8_imageOf ml_X8_225 mi_X8_imageOf se_X8_imageOf lyC_0 rfl (by decide) rfl (Nat.le_of_ble_eq_true rfl) (Nat.le_of_ble_eq_true rfl) (m_X8_imageOf lw tl tt M x1  _ hc_2) ?_
  refine T_astore_n (i := 2) (L' := [aR (some 0), aI x1, aR o_1]) dX8_image_5 rfl (Nat.le_of_ble_eq_true rfl) rfl ?_
  refine T_aload_n dX8_image_6 rfl ?_
  cases o_1 with
  | none =>
    have h := oc_none h
    refine T_ifnonnull0 dX8_image_7 ?_
    refine T_iconst dX8_image_10 ic_m1 ?_
    obtain ⟨rfl, rfl⟩ := sm2 h
    exact T_iret dX8_image_11 ⟨rfl, rfl, rfl, rfl⟩
  | some q_3 =>
    have h := oc_some h
    refine T_ifnonnull1 (tgt := 12) dX8_image_7 (by decide) ?_
    refine T_aload_n dX8_image_12 rfl ?_
    refine T_getR dX8_image_13 clOK_X8 fl_X8_37 lyC_0 rfl rfl ?_
    refine T_getZ dX8_image_16 clOK_X1 fl_X8_210 lyC_9 rfl ?_
    refine T_if_ne (tgt := 25) dX8_image_19 (by decide) (fun hc => ?_) (fun hc => ?_)
    · have h := it_neg hc h
      refine T_aload_n dX8_image_25 rfl ?_
      refine T_aload_n dX8_image_26 rfl ?_
      refine T_getR dX8_image_27 clOK_X8 fl_X8_37 lyC_0 rfl rfl ?_
      obtain ⟨hf_4, h⟩ := chk_some h
      obtain ⟨M_5, hc_6, h⟩ := bd1_some h
      refine T_cvv (as := [vR (some 9)]) dX8_image_30 cw_X1_become ml_X8_229 mi_X1_become se_X1_become (lyX1 hf_4) rfl (by decide) rfl (Nat.le_of_ble_eq_true rfl) (Nat.le_of_ble_eq_true rfl) (m_X1_become lw tl tt M q_3 9 hf_4 rfl _ hc_6) ?_
      refine T_aload_n dX8_image_33 rfl ?_
      refine T_getI dX8_image_34 clOK_X1 fl_X8_217 (lyX1 hf_4) rfl ?_
      obtain ⟨rfl, rfl⟩ := sm2 h
      exact T_iret dX8_image_37 ⟨rfl, rfl, rfl, rfl⟩
    · have h := it_pos hc h
      refine T_bipush dX8_image_22 bp_m4 ?_
      obtain ⟨rfl, rfl⟩ := sm2 h
      exact T_iret dX8_image_24 ⟨rfl, rfl, rfl, rfl⟩
def F_X8_on (M : Mem) (x1 : Int32) : Option (Int32 × Mem) :=
 bd1 (F_X8_imageOf x1) fun o_1 => oc o_1 (some ((-1), M))
 (fun q_3 => chk (isX1 q_3 = true) (if (gI M q_3 7) = 0 then bd2 (F_X8_found M 1) fun r_9 M_10 => some (r_9, M_10)
 else bd1 (F_X1_become M 9 q_3) fun M_5 => bd1 (F_X0_forget M_5) fun M_7 => some (gI M_7 9 3, M_7)))
set_option maxRecDepth 100000 in
set_option maxHeartbeats 4000000 in
theorem m_X8_on (lw : Nat → Option Nat) (tl : Option Nat) (tt : Option Nat) (M : Mem) (x1 : Int32) (r : Int32) (M' : Mem) (h : F_X8_on M x1 = some (r, M')) : Cal yX8_on cX8_on 3 (some .int) 0 2 0 0 false [vR (some 0), vI x1] LAYC (rfs lw tl tt) M (eqp (vI r) LAYC (rfs lw tl tt) M') := by
  refine Cal.of (by decide +kernel) (Nat.le_of_ble_eq_true rfl) (fun h => by cases h) ?_
  unfold F_X8_on at h
  show T RX8 cX8_on 3 (some .int) 0 2 0 0 false (eqp (vI r) LAYC (rfs lw tl tt) M') 0 [aR (some 0), aI x1, aU] [] LAYC (rfs lw tl tt) M 0 0
  refine T_aload_n dX8_on_0 rfl ?_
  refine T_iload_n dX8_on_1 rfl ?_
  obtain ⟨o_1, hc_2, h⟩ := bd1_some h
  refine T_cvq (as := [vI x1]) dX8_on_2 cw_X8_imageOf ml_X8_225 mi_X8_imageOf se_X8_imageOf lyC_0 rfl (by decide) rfl (Nat.le_of_ble_eq_true rfl) (Nat.le_of_ble_eq_true rfl) (m_X8_imageOf lw tl tt M x1  _ hc_2) ?_
  refine T_astore_n (i := 2) (L' := [aR (some 0), aI x1, aR o_1]) dX8_on_5 rfl (Nat.le_of_ble_eq_true rfl) rfl ?_
  refine T_aload_n dX8_on_6 rfl ?_
  cases o_1 with
  | none =>
    have h := oc_none h
    refine T_ifnonnull0 dX8_on_7 ?_
    refine T_iconst dX8_on_10 ic_m1 ?_
    obtain ⟨rfl, rfl⟩ := sm2 h
    exact T_iret dX8_on_11 ⟨rfl, rfl, rfl, rfl⟩
  | some q_3 =>
    have h := oc_some h
    refine T_ifnonnull1 (tgt := 12) dX8_on_7 (by decide) ?_
    refine T_aload_n dX8_on_12 rfl ?_
    obtain ⟨hf_4, h⟩ := chk_some h
    refine T_getZ dX8_on_13 clOK_X1 fl_X8_210 (lyX1 hf_4) rfl ?_
    refine T_if_ne (tgt := 25) dX8_on_16 (by decide) (fun hc => ?_) (fun hc => ?_)
    · have h := it_neg hc h
      refine T_aload_n dX8_on_25 rfl ?_
      refine T_getR dX8_on_26 clOK_X8 fl_X8_37 lyC_0 rfl rfl ?_
      refine T_aload_n dX8_on_29 rfl ?_
      obtain ⟨M_5, hc_6, h⟩ := bd1_some h
      refine T_cvv (as := [vR (some q_3)]) dX8_on_30 cw_X1_become ml_X8_229 mi_X1_become se_X1_become lyC_9 rfl (by decide) rfl (Nat.le_of_ble_eq_true rfl) (Nat.le_of_ble_eq_true rfl) (m_X1_become lw tl tt M 9 q_3 rfl hf_4 _ hc_6) ?_
      refine T_aload_n dX8_on_33 rfl ?_
      refine T_getR dX8_on_34 clOK_X8 fl_X8_61 lyC_0 rfl rfl ?_
      obtain ⟨M_7, hc_8, h⟩ := bd1_some h
      refine T_cvv (as := []) dX8_on_37 cw_X0_forget ml_X8_158 mi_X0_forget se_X0_forget lyC_15 rfl (by decide) rfl (Nat.le_of_ble_eq_true rfl) (Nat.le_of_ble_eq_true rfl) (m_X0_forget lw tl tt M_5  _ hc_8) ?_
      refine T_aload_n dX8_on_40 rfl ?_
      refine T_getR dX8_on_41 clOK_X8 fl_X8_37 lyC_0 rfl rfl ?_
      refine T_getI dX8_on_44 clOK_X1 fl_X8_217 lyC_9 rfl ?_
      obtain ⟨rfl, rfl⟩ := sm2 h
      exact T_iret dX8_on_47 ⟨rfl, rfl, rfl, rfl⟩
    · have h := it_pos hc h
      refine T_aload_n dX8_on_19 rfl ?_
      refine T_iconst dX8_on_20 ic_1 ?_
      obtain ⟨r_9, M_10, hc_11, h⟩ := bd2_some h
      refine T_cvi (as := [vI 1]) dX8_on_21 cw_X8_found ml_X8_100 mi_X8_found se_X8_found lyC_0 rfl (by decide) rfl (Nat.le_of_ble_eq_true rfl) (Nat.le_of_ble_eq_true rfl) (m_X8_found lw tl tt M 1  _ _ hc_11) ?_
      obtain ⟨rfl, rfl⟩ := sm2 h
      exact T_iret dX8_on_24 ⟨rfl, rfl, rfl, rfl⟩
def F_X8_then (M : Mem) (x1 : Int32) (x2 : Int32) (x3 : Int32) : Option (Int32 × Mem) :=
 bd1 (F_X8_imageOf x1) fun o_1 => oc o_1 (some ((-1), M))
 (fun q_3 => if x3 < 0 then some ((-1), M)
 else if x3 < (nI 5) then chk (isX1 q_3 = true) (if (gI M q_3 7) = 0 then bd2 (F_X8_found M 1) fun r_12 M_13 => some (r_12, M_13)
 else bd1 (F_X1_has M q_3 x2) fun r_5 => if r_5 = 0 then some ((-1), M)
 else bd1 (F_X1_holeTold M q_3 x2 x3) fun r_7 => bd2 (F_X8_tell M r_7) fun r_9 M_10 => some (r_9, M_10))
 else some ((-1), M))
set_option maxRecDepth 100000 in
set_option maxHeartbeats 4000000 in
theorem m_X8_then (lw : Nat → Option Nat) (tl : Option Nat) (tt : Option Nat) (M : Mem) (x1 : Int32) (x2 : Int32) (x3 : Int32) (r : Int32) (M' : Mem) (h : F_X8_then M x1 x2 x3 = some (r, M')) : Cal yX8_then cX8_then 5 (some .int) 0 4 0 0 false [vR (some 0), vI x1, vI x2, vI x3] LAYC (rfs lw tl tt) M (eqp (vI r) LAYC (rfs lw tl tt) M') := by
  refine Cal.of (by decide +kernel) (Nat.le_of_ble_eq_true rfl) (fun h => by cases h) ?_
  unfold F_X8_then at h
  show T RX8 cX8_then 5 (some .int) 0 4 0 0 false (eqp (vI r) LAYC (rfs lw tl tt) M') 0 [aR (some 0), aI x1, aI x2, aI x3, aU] [] LAYC (rfs lw tl tt) M 0 0
  refine T_aload_n dX8_then_0 rfl ?_
  refine T_iload_n dX8_then_1 rfl ?_
  obtain ⟨o_1, hc_2, h⟩ := bd1_some h
  refine T_cvq (as := [vI x1]) dX8_then_2 cw_X8_imageOf ml_X8_225 mi_X8_imageOf se_X8_imageOf lyC_0 rfl (by decide) rfl (Nat.le_of_ble_eq_true rfl) (Nat.le_of_ble_eq_true rfl) (m_X8_imageOf lw tl tt M x1  _ hc_2) ?_
  refine T_astore (i := 4) (L' := [aR (some 0), aI x1, aI x2, aI x3, aR o_1]) dX8_then_5 (Nat.le_of_ble_eq_true rfl) rfl ?_
  refine T_aload dX8_then_7 rfl ?_
  cases o_1 with
  | none =>
    have h := oc_none h
    refine T_ifnull0 (tgt := 21) dX8_then_9 (by decide) ?_
    refine T_iconst dX8_then_21 ic_m1 ?_
    obtain ⟨rfl, rfl⟩ := sm2 h
    exact T_iret dX8_then_22 ⟨rfl, rfl, rfl, rfl⟩
  | some q_3 =>
    have h := oc_some h
    refine T_ifnull1 dX8_then_9 ?_
    refine T_iload_n dX8_then_12 rfl ?_
    refine T_if_lt (tgt := 21) dX8_then_13 (by decide) (fun hc => ?_) (fun hc => ?_)
    · have h := it_pos hc h
      refine T_iconst dX8_then_21 ic_m1 ?_
      obtain ⟨rfl, rfl⟩ := sm2 h
      exact T_iret dX8_then_22 ⟨rfl, rfl, rfl, rfl⟩
    · have h := it_neg hc h
      refine T_iload_n dX8_then_16 rfl ?_
      refine T_iconst dX8_then_17 ic_5 ?_
      refine T_icmp_lt (tgt := 23) dX8_then_18 (by decide) (fun hc => ?_) (fun hc => ?_)
      · have h := it_pos hc h
        refine T_aload dX8_then_23 rfl ?_
        obtain ⟨hf_4, h⟩ := chk_some h
        refine T_getZ dX8_then_25 clOK_X1 fl_X8_210 (lyX1 hf_4) rfl ?_
        refine T_if_ne (tgt := 37) dX8_then_28 (by decide) (fun hc => ?_) (fun hc => ?_)
        · have h := it_neg hc h
          refine T_aload dX8_then_37 rfl ?_
          refine T_iload_n dX8_then_39 rfl ?_
          obtain ⟨r_5, hc_6, h⟩ := bd1_some h
          refine T_cvi (as := [vI x2]) dX8_then_40 cw_X1_has ml_X8_189 mi_X1_has se_X1_has (lyX1 hf_4) rfl (by decide) rfl (Nat.le_of_ble_eq_true rfl) (Nat.le_of_ble_eq_true rfl) (m_X1_has lw tl tt M q_3 x2 hf_4 _ hc_6) ?_
          refine T_if_ne (tgt := 48) dX8_then_43 (by decide) (fun hc => ?_) (fun hc => ?_)
          · have h := it_neg hc h
            refine T_aload_n dX8_then_48 rfl ?_
            refine T_aload dX8_then_49 rfl ?_
            refine T_iload_n dX8_then_51 rfl ?_
            refine T_iload_n dX8_then_52 rfl ?_
            obtain ⟨r_7, hc_8, h⟩ := bd1_some h
            refine T_cvi (as := [vI x2, vI x3]) dX8_then_53 cw_X1_holeTold ml_X8_190 mi_X1_holeTold se_X1_holeTold (lyX1 hf_4) rfl (by decide) rfl (Nat.le_of_ble_eq_true rfl) (Nat.le_of_ble_eq_true rfl) (m_X1_holeTold lw tl tt M q_3 x2 x3 hf_4 _ hc_8) ?_
            obtain ⟨r_9, M_10, hc_11, h⟩ := bd2_some h
            refine T_cvi (as := [vI r_7]) dX8_then_56 cw_X8_tell ml_X8_115 mi_X8_tell se_X8_tell lyC_0 rfl (by decide) rfl (Nat.le_of_ble_eq_true rfl) (Nat.le_of_ble_eq_true rfl) (m_X8_tell lw tl tt M r_7  _ _ hc_11) ?_
            obtain ⟨rfl, rfl⟩ := sm2 h
            exact T_iret dX8_then_59 ⟨rfl, rfl, rfl, rfl⟩
          · have h := it_pos hc h
            refine T_iconst dX8_then_46 ic_m1 ?_
            obtain ⟨rfl, rfl⟩ := sm2 h
            exact T_iret dX8_then_47 ⟨rfl, rfl, rfl, rfl⟩
        · have h := it_pos hc h
          refine T_aload_n dX8_then_31 rfl ?_
          refine T_iconst dX8_then_32 ic_1 ?_
          obtain ⟨r_12, M_13, hc_14, h⟩ := bd2_some h
          refine T_cvi (as := [vI 1]) dX8_then_33 cw_X8_found ml_X8_100 mi_X8_found se_X8_found lyC_0 rfl (by decide) rfl (Nat.le_of_ble_eq_true rfl) (Nat.le_of_ble_eq_true rfl) (m_X8_found lw tl tt M 1  _ _ hc_14) ?_
          obtain ⟨rfl, rfl⟩ := sm2 h
          exact T_iret dX8_then_36 ⟨rfl, rfl, rfl, rfl⟩
      · have h := it_neg hc h
        refine T_iconst dX8_then_21 ic_m1 ?_
        obtain ⟨rfl, rfl⟩ := sm2 h
        exact T_iret dX8_then_22 ⟨rfl, rfl, rfl, rfl⟩
def F_X8_same (lw : Nat → Option Nat) (M : Mem) (x1 : Int32) (x2 : Int32) (x3 : Int32) (x4 : Int32) : Option (Int32 × Mem) :=
 bd1 (F_X8_lawOf lw M x1) fun o_1 => bd1 (F_X8_imageOf x2) fun o_3 => oc o_1 (some ((-1), M))
 (fun q_5 => oc o_3 (some ((-1), M))
 (fun q_6 => chk (isX1 q_6 = true) (if (gI M q_6 7) = 0 then bd2 (F_X8_found M 1) fun r_15 M_16 => some (r_15, M_16)
 else bd1 (F_X1_has M q_6 x3) fun r_8 => if r_8 = 0 then some ((-1), M)
 else bd1 (F_X1_has M 9 x4) fun r_10 => if r_10 = 0 then some ((-1), M)
 else chk (isX3 q_5 = true) (bd1 (F_X3_matches M q_5 q_6 x3 9 x4) fun r_13 => if r_13 = 0 then some (0, M)
 else some (1, M)))))
set_option maxRecDepth 100000 in
set_option maxHeartbeats 4000000 in
theorem m_X8_same (tl : Option Nat) (tt : Option Nat) (lw : Nat → Option Nat) (M : Mem) (x1 : Int32) (x2 : Int32) (x3 : Int32) (x4 : Int32) (r : Int32) (M' : Mem) (h : F_X8_same lw M x1 x2 x3 x4 = some (r, M')) : Cal yX8_same cX8_same 7 (some .int) 0 4 0 0 false [vR (some 0), vI x1, vI x2, vI x3, vI x4] LAYC (rfs lw tl tt) M (eqp (vI r) LAYC (rfs lw tl tt) M') := by
  refine Cal.of (by decide +kernel) (Nat.le_of_ble_eq_true rfl) (fun h => by cases h) ?_
  unfold F_X8_same at h
  show T RX8 cX8_same 7 (some .int) 0 4 0 0 false (eqp (vI r) LAYC (rfs lw tl tt) M') 0 [aR (some 0), aI x1, aI x2, aI x3, aI x4, aU, aU] [] LAYC (rfs lw tl tt) M 0 0
  refine T_aload_n dX8_same_0 rfl ?_
  refine T_iload_n dX8_same_1 rfl ?_
  obtain ⟨o_1, hc_2, h⟩ := bd1_some h
  refine T_cvq (as := [vI x1]) dX8_same_2 cw_X8_lawOf ml_X8_175 mi_X8_lawOf se_X8_lawOf lyC_0 rfl (by decide) rfl (Nat.le_of_ble_eq_true rfl) (Nat.le_of_ble_eq_true rfl) (m_X8_lawOf tl tt lw M x1  _ hc_2) ?_
  refine T_astore (i := 5) (L' := [aR (some 0), aI x1, aI x2, aI x3, aI x4, aR o_1, aU]) dX8_same_5 (Nat.le_of_ble_eq_true rfl) rfl ?_
  refine T_aload_n dX8_same_7 rfl ?_
  refine T_iload_n dX8_same_8 rfl ?_
  obtain ⟨o_3, hc_4, h⟩ := bd1_some h
  refine T_cvq (as := [vI x2]) dX8_same_9 cw_X8_imageOf ml_X8_225 mi_X8_imageOf se_X8_imageOf lyC_0 rfl (by decide) rfl (Nat.le_of_ble_eq_true rfl) (Nat.le_of_ble_eq_true rfl) (m_X8_imageOf lw tl tt M x2  _ hc_4) ?_
  refine T_astore (i := 6) (L' := [aR (some 0), aI x1, aI x2, aI x3, aI x4, aR o_1, aR o_3]) dX8_same_12 (Nat.le_of_ble_eq_true rfl) rfl ?_
  refine T_aload dX8_same_14 rfl ?_
  cases o_1 with
  | none =>
    have h := oc_none h
    refine T_ifnull0 (tgt := 24) dX8_same_16 (by decide) ?_
    refine T_iconst dX8_same_24 ic_m1 ?_
    obtain ⟨rfl, rfl⟩ := sm2 h
    exact T_iret dX8_same_25 ⟨rfl, rfl, rfl, rfl⟩
  | some q_5 =>
    have h := oc_some h
    refine T_ifnull1 dX8_same_16 ?_
    refine T_aload dX8_same_19 rfl ?_
    cases o_3 with
    | none =>
      have h := oc_none h
      refine T_ifnonnull0 dX8_same_21 ?_
      refine T_iconst dX8_same_24 ic_m1 ?_
      obtain ⟨rfl, rfl⟩ := sm2 h
      exact T_iret dX8_same_25 ⟨rfl, rfl, rfl, rfl⟩
    | some q_6 =>
      have h := oc_some h
      refine T_ifnonnull1 (tgt := 26) dX8_same_21 (by decide) ?_
      refine T_aload dX8_same_26 rfl ?_
      obtain ⟨hf_7, h⟩ := chk_some h
      refine T_getZ dX8_same_28 clOK_X1 fl_X8_210 (lyX1 hf_7) rfl ?_
      refine T_if_ne (tgt := 40) dX8_same_31 (by decide) (fun hc => ?_) (fun hc => ?_)
      · have h := it_neg hc h
        refine T_aload dX8_same_40 rfl ?_
        refine T_iload_n dX8_same_42 rfl ?_
        obtain ⟨r_8, hc_9, h⟩ := bd1_some h
        refine T_cvi (as := [vI x3]) dX8_same_43 cw_X1_has ml_X8_189 mi_X1_has se_X1_has (lyX1 hf_7) rfl (by decide) rfl (Nat.le_of_ble_eq_true rfl) (Nat.le_of_ble_eq_true rfl) (m_X1_has lw tl tt M q_6 x3 hf_7 _ hc_9) ?_
        refine T_if_eq (tgt := 61) dX8_same_46 (by decide) (fun hc => ?_) (fun hc => ?_)
        · have h := it_pos hc h
          refine T_iconst dX8_same_61 ic_m1 ?_
          obtain ⟨rfl, rfl⟩ := sm2 h
          exact T_iret dX8_same_62 ⟨rfl, rfl, rfl, rfl⟩
        · have h := it_neg hc h
          refine T_aload_n dX8_same_49 rfl ?_
          refine T_getR dX8_same_50 clOK_X8 fl_X8_37 lyC_0 rfl rfl ?_
          refine T_iload dX8_same_53 rfl ?_
          obtain ⟨r_10, hc_11, h⟩ := bd1_some h
          refine T_cvi (as := [vI x4]) dX8_same_55 cw_X1_has ml_X8_189 mi_X1_has se_X1_has lyC_9 rfl (by decide) rfl (Nat.le_of_ble_eq_true rfl) (Nat.le_of_ble_eq_true rfl) (m_X1_has lw tl tt M 9 x4 rfl _ hc_11) ?_
          refine T_if_ne (tgt := 63) dX8_same_58 (by decide) (fun hc => ?_) (fun hc => ?_)
          · have h := it_neg hc h
            refine T_aload dX8_same_63 rfl ?_
            refine T_aload dX8_same_65 rfl ?_
            refine T_iload_n dX8_same_67 rfl ?_
            refine T_aload_n dX8_same_68 rfl ?_
            refine T_getR dX8_same_69 clOK_X8 fl_X8_37 lyC_0 rfl rfl ?_
            refine T_iload dX8_same_72 rfl ?_
            obtain ⟨hf_12, h⟩ := chk_some h
            obtain ⟨r_13, hc_14, h⟩ := bd1_some h
            refine T_cvi (as := [vR (some q_6), vI x3, vR (some 9), vI x4]) dX8_same_74 cw_X3_matches ml_X8_233 mi_X3_matches se_X3_matches (lyX3 hf_12) rfl (by decide) rfl (Nat.le_of_ble_eq_true rfl) (Nat.le_of_ble_eq_true rfl) (m_X3_matches lw tl tt M q_5 q_6 x3 9 x4 hf_12 hf_7 rfl _ hc_14) ?_
            refine T_if_eq (tgt := 84) dX8_same_77 (by decide) (fun hc => ?_) (fun hc => ?_)
            · have h := it_pos hc h
              refine T_iconst dX8_same_84 ic_0 ?_
              obtain ⟨rfl, rfl⟩ := sm2 h
              exact T_iret dX8_same_85 ⟨rfl, rfl, rfl, rfl⟩
            · have h := it_neg hc h
              refine T_iconst dX8_same_80 ic_1 ?_
              refine T_goto (tgt := 85) dX8_same_81 (by decide) ?_
              obtain ⟨rfl, rfl⟩ := sm2 h
              exact T_iret dX8_same_85 ⟨rfl, rfl, rfl, rfl⟩
          · have h := it_pos hc h
            refine T_iconst dX8_same_61 ic_m1 ?_
            obtain ⟨rfl, rfl⟩ := sm2 h
            exact T_iret dX8_same_62 ⟨rfl, rfl, rfl, rfl⟩
      · have h := it_pos hc h
        refine T_aload_n dX8_same_34 rfl ?_
        refine T_iconst dX8_same_35 ic_1 ?_
        obtain ⟨r_15, M_16, hc_17, h⟩ := bd2_some h
        refine T_cvi (as := [vI 1]) dX8_same_36 cw_X8_found ml_X8_100 mi_X8_found se_X8_found lyC_0 rfl (by decide) rfl (Nat.le_of_ble_eq_true rfl) (Nat.le_of_ble_eq_true rfl) (m_X8_found lw tl tt M 1  _ _ hc_17) ?_
        obtain ⟨rfl, rfl⟩ := sm2 h
        exact T_iret dX8_same_39 ⟨rfl, rfl, rfl, rfl⟩
def F_X8_which (lw : Nat → Option Nat) (M : Mem) (x1 : Int32) (x2 : Int32) (x3 : Int32) : Option (Int32 × Mem) :=
 bd1 (F_X8_lawOf lw M x1) fun o_1 => bd1 (F_X8_imageOf x2) fun o_3 => oc o_1 (some ((-1), M))
 (fun q_5 => oc o_3 (some ((-1), M))
 (fun q_6 => chk (isX1 q_6 = true) (if (gI M q_6 7) = 0 then bd2 (F_X8_found M 1) fun r_13 M_14 => some (r_13, M_14)
 else bd1 (F_X1_has M q_6 x3) fun r_8 => if r_8 = 0 then some ((-1), M)
 else chk (isX3 q_5 = true) (bd1 (F_X3_allMatching M q_5 q_6 x3 9) fun r_11 => some (r_11, M)))))
set_option maxRecDepth 100000 in
set_option maxHeartbeats 4000000 in
theorem m_X8_which (tl : Option Nat) (tt : Option Nat) (lw : Nat → Option Nat) (M : Mem) (x1 : Int32) (x2 : Int32) (x3 : Int32) (r : Int32) (M' : Mem) (h : F_X8_which lw M x1 x2 x3 = some (r, M')) : Cal yX8_which cX8_which 6 (some .int) 0 5 0 0 false [vR (some 0), vI x1, vI x2, vI x3] LAYC (rfs lw tl tt) M (eqp (vI r) LAYC (rfs lw tl tt) M') := by
  refine Cal.of (by decide +kernel) (Nat.le_of_ble_eq_true rfl) (fun h => by cases h) ?_
  unfold F_X8_which at h
  show T RX8 cX8_which 6 (some .int) 0 5 0 0 false (eqp (vI r) LAYC (rfs lw tl tt) M') 0 [aR (some 0), aI x1, aI x2, aI x3, aU, aU] [] LAYC (rfs lw tl tt) M 0 0
  refine T_aload_n dX8_which_0 rfl ?_
  refine T_iload_n dX8_which_1 rfl ?_
  obtain ⟨o_1, hc_2, h⟩ := bd1_some h
  refine T_cvq (as := [vI x1]) dX8_which_2 cw_X8_lawOf ml_X8_175 mi_X8_lawOf se_X8_lawOf lyC_0 rfl (by decide) rfl (Nat.le_of_ble_eq_true rfl) (Nat.le_of_ble_eq_true rfl) (m_X8_lawOf tl tt lw M x1  _ hc_2) ?_
  refine T_astore (i := 4) (L' := [aR (some 0), aI x1, aI x2, aI x3, aR o_1, aU]) dX8_which_5 (Nat.le_of_ble_eq_true rfl) rfl ?_
  refine T_aload_n dX8_which_7 rfl ?_
  refine T_iload_n dX8_which_8 rfl ?_
  obtain ⟨o_3, hc_4, h⟩ := bd1_some h
  refine T_cvq (as := [vI x2]) dX8_which_9 cw_X8_imageOf ml_X8_225 mi_X8_imageOf se_X8_imageOf lyC_0 rfl (by decide) rfl (Nat.le_of_ble_eq_true rfl) (Nat.le_of_ble_eq_true rfl) (m_X8_imageOf lw tl tt M x2  _ hc_4) ?_
  refine T_astore (i := 5) (L' := [aR (some 0), aI x1, aI x2, aI x3, aR o_1, aR o_3]) dX8_which_12 (Nat.le_of_ble_eq_true rfl) rfl ?_
  refine T_aload dX8_which_14 rfl ?_
  cases o_1 with
  | none =>
    have h := oc_none h
    refine T_ifnull0 (tgt := 24) dX8_which_16 (by decide) ?_
    refine T_iconst dX8_which_24 ic_m1 ?_
    obtain ⟨rfl, rfl⟩ := sm2 h
    exact T_iret dX8_which_25 ⟨rfl, rfl, rfl, rfl⟩
  | some q_5 =>
    have h := oc_some h
    refine T_ifnull1 dX8_which_16 ?_
    refine T_aload dX8_which_19 rfl ?_
    cases o_3 with
    | none =>
      have h := oc_none h
      refine T_ifnonnull0 dX8_which_21 ?_
      refine T_iconst dX8_which_24 ic_m1 ?_
      obtain ⟨rfl, rfl⟩ := sm2 h
      exact T_iret dX8_which_25 ⟨rfl, rfl, rfl, rfl⟩
    | some q_6 =>
      have h := oc_some h
      refine T_ifnonnull1 (tgt := 26) dX8_which_21 (by decide) ?_
      refine T_aload dX8_which_26 rfl ?_
      obtain ⟨hf_7, h⟩ := chk_some h
      refine T_getZ dX8_which_28 clOK_X1 fl_X8_210 (lyX1 hf_7) rfl ?_
      refine T_if_ne (tgt := 40) dX8_which_31 (by decide) (fun hc => ?_) (fun hc => ?_)
      · have h := it_neg hc h
        refine T_aload dX8_which_40 rfl ?_
        refine T_iload_n dX8_which_42 rfl ?_
        obtain ⟨r_8, hc_9, h⟩ := bd1_some h
        refine T_cvi (as := [vI x3]) dX8_which_43 cw_X1_has ml_X8_189 mi_X1_has se_X1_has (lyX1 hf_7) rfl (by decide) rfl (Nat.le_of_ble_eq_true rfl) (Nat.le_of_ble_eq_true rfl) (m_X1_has lw tl tt M q_6 x3 hf_7 _ hc_9) ?_
        refine T_if_ne (tgt := 51) dX8_which_46 (by decide) (fun hc => ?_) (fun hc => ?_)
        · have h := it_neg hc h
          refine T_aload dX8_which_51 rfl ?_
          refine T_aload dX8_which_53 rfl ?_
          refine T_iload_n dX8_which_55 rfl ?_
          refine T_aload_n dX8_which_56 rfl ?_
          refine T_getR dX8_which_57 clOK_X8 fl_X8_37 lyC_0 rfl rfl ?_
          obtain ⟨hf_10, h⟩ := chk_some h
          obtain ⟨r_11, hc_12, h⟩ := bd1_some h
          refine T_cvi (as := [vR (some q_6), vI x3, vR (some 9)]) dX8_which_60 cw_X3_allMatching ml_X8_237 mi_X3_allMatching se_X3_allMatching (lyX3 hf_10) rfl (by decide) rfl (Nat.le_of_ble_eq_true rfl) (Nat.le_of_ble_eq_true rfl) (m_X3_allMatching lw tl tt M q_5 q_6 x3 9 hf_10 hf_7 rfl _ hc_12) ?_
          obtain ⟨rfl, rfl⟩ := sm2 h
          exact T_iret dX8_which_63 ⟨rfl, rfl, rfl, rfl⟩
        · have h := it_pos hc h
          refine T_iconst dX8_which_49 ic_m1 ?_
          obtain ⟨rfl, rfl⟩ := sm2 h
          exact T_iret dX8_which_50 ⟨rfl, rfl, rfl, rfl⟩
      · have h := it_pos hc h
        refine T_aload_n dX8_which_34 rfl ?_
        refine T_iconst dX8_which_35 ic_1 ?_
        obtain ⟨r_13, M_14, hc_15, h⟩ := bd2_some h
        refine T_cvi (as := [vI 1]) dX8_which_36 cw_X8_found ml_X8_100 mi_X8_found se_X8_found lyC_0 rfl (by decide) rfl (Nat.le_of_ble_eq_true rfl) (Nat.le_of_ble_eq_true rfl) (m_X8_found lw tl tt M 1  _ _ hc_15) ?_
        obtain ⟨rfl, rfl⟩ := sm2 h
        exact T_iret dX8_which_39 ⟨rfl, rfl, rfl, rfl⟩
def X8_doubt_L47 (lw : Nat → Option Nat) (M : Mem) (p3 : Nat) (p4 : Nat) : Int32 × Int32 × Int32 → Option ((Int32 × Int32 × Int32) ⊕ (Int32 × Mem))
  | (x5, x6, x7) =>
    if (gI M p4 3) ≤ x7 then lett (sI M 0 12 x6) fun M_9 => some (.inr (x5, M_9))
    else bd1 (F_X3_allMatching M p3 p4 x7 9) fun r_11 => bd1 (F_J6_bitCount_0f7a4 r_11) fun r_13 => if r_13 ≤ 1 then if r_13 = 0 then lett (x6 + 1) fun x_17 => lett (x7 + 1) fun x_19 => some (.inl (x5, x_17, x_19))
    else lett (x7 + 1) fun x_15 => some (.inl (x5, x6, x_15))
    else lett (x5 + 1) fun x_21 => lett (x7 + 1) fun x_23 => some (.inl (x_21, x6, x_23))
def F_X8_doubt (lw : Nat → Option Nat) (M : Mem) (x1 : Int32) (x2 : Int32) : Option (Int32 × Mem) :=
 bd1 (F_X8_lawOf lw M x1) fun o_1 => bd1 (F_X8_imageOf x2) fun o_3 => oc o_1 (some ((-1), M))
 (fun q_5 => oc o_3 (some ((-1), M))
 (fun q_6 => chk (isX1 q_6 = true) (if (gI M q_6 7) = 0 then bd2 (F_X8_found M 1) fun r_25 M_26 => some (r_25, M_26)
 else chk (isX3 q_5 = true) (loop (X8_doubt_L47 lw M q_5 q_6) FU (0, 0, 0)))))
set_option maxRecDepth 100000 in
set_option maxHeartbeats 4000000 in
theorem s_X8_doubt_L47 (tl : Option Nat) (tt : Option Nat) (lw : Nat → Option Nat) (M : Mem) (p3 : Nat) (p4 : Nat) (h3 : isX3 p3 = true) (h4 : isX1 p4 = true) (x5 : Int32) (x6 : Int32) (x7 : Int32) {Po : Po_} (x : (Int32 × Int32 × Int32) ⊕ (Int32 × Mem)) (h : X8_doubt_L47 lw M p3 p4 (x5, x6, x7) = some x) (hI : ∀ (ix5 : Int32) (ix6 : Int32) (ix7 : Int32), x = .inl (ix5, ix6, ix7) → T RX8 cX8_doubt 9 (some .int) 0 5 0 0 false Po 47 [aR (some 0), aU, aU, aR (some p3), aR (some p4), aI ix5, aI ix6, aI ix7, aU] [] LAYC (rfs lw tl tt) M 0 0) (hE0 : ∀ (er : Int32) (eM : Mem), x = .inr (er, eM) → Po (vI er) LAYC (rfs lw tl tt) eM) : T RX8 cX8_doubt 9 (some .int) 0 5 0 0 false Po 47 [aR (some 0), aU, aU, aR (some p3), aR (some p4), aI x5, aI x6, aI x7, aU] [] LAYC (rfs lw tl tt) M 0 0 := by
  unfold X8_doubt_L47 at h
  simp only at h
  refine T_iload dX8_doubt_47 rfl ?_
  refine T_aload dX8_doubt_49 rfl ?_
  refine T_getI dX8_doubt_51 clOK_X1 fl_X8_217 (lyX1 h4) rfl ?_
  refine T_icmp_ge (tgt := 100) dX8_doubt_54 (by decide) (fun hc => ?_) (fun hc => ?_)
  · have h := it_pos hc h
    refine T_aload_n dX8_doubt_100 rfl ?_
    refine T_iload dX8_doubt_101 rfl ?_
    obtain ⟨M_9, eM_10, h⟩ := lett_some h
    refine T_putI dX8_doubt_103 clOK_X8 fl_X8_107 (Or.inl rfl) lyC_0 rfl rfl eM_10 ?_
    refine T_iload dX8_doubt_106 rfl ?_
    obtain rfl := sm1 h
    exact T_iret dX8_doubt_108 (hE0 _ _ rfl)
  · have h := it_neg hc h
    refine T_aload_n dX8_doubt_57 rfl ?_
    refine T_aload dX8_doubt_58 rfl ?_
    refine T_iload dX8_doubt_60 rfl ?_
    refine T_aload_n dX8_doubt_62 rfl ?_
    refine T_getR dX8_doubt_63 clOK_X8 fl_X8_37 lyC_0 rfl rfl ?_
    obtain ⟨r_11, hc_12, h⟩ := bd1_some h
    refine T_cvi (as := [vR (some p4), vI x7, vR (some 9)]) dX8_doubt_66 cw_X3_allMatching ml_X8_237 mi_X3_allMatching se_X3_allMatching (lyX3 h3) rfl (by decide) rfl (Nat.le_of_ble_eq_true rfl) (Nat.le_of_ble_eq_true rfl) (m_X3_allMatching lw tl tt M p3 p4 x7 9 h3 h4 rfl _ hc_12) ?_
    obtain ⟨r_13, hc_14, h⟩ := bd1_some h
    refine T_csi (as := [vI r_11]) dX8_doubt_69 cw_J6_bitCount_0f7a4 ml_X8_241 mt_J6_bitCount_0f7a4 rfl (Nat.le_of_ble_eq_true rfl) (Nat.le_of_ble_eq_true rfl) (m_J6_bitCount_0f7a4 LAYC (rfs lw tl tt) M r_11  _ hc_14) ?_
    refine T_istore (i := 8) (L' := [aR (some 0), aU, aU, aR (some p3), aR (some p4), aI x5, aI x6, aI x7, aI r_13]) dX8_doubt_72 (Nat.le_of_ble_eq_true rfl) rfl ?_
    refine T_iload dX8_doubt_74 rfl ?_
    refine T_iconst dX8_doubt_76 ic_1 ?_
    refine T_icmp_le (tgt := 86) dX8_doubt_77 (by decide) (fun hc => ?_) (fun hc => ?_)
    · have h := it_pos hc h
      refine T_iload dX8_doubt_86 rfl ?_
      refine T_if_ne (tgt := 94) dX8_doubt_88 (by decide) (fun hc => ?_) (fun hc => ?_)
      · have h := it_neg hc h
        obtain ⟨x_15, ex_16, h⟩ := lett_some h
        refine T_iinc (L' := [aR (some 0), aU, aU, aR (some p3), aR (some p4), aI x5, aI x6, aI x_15, aI r_13]) dX8_doubt_94 rfl (ic_inc ic_1 ex_16) (Nat.le_of_ble_eq_true rfl) rfl ?_
        refine T_goto (tgt := 47) dX8_doubt_97 (by decide) ?_
        obtain rfl := sm1 h
        refine T_mask [true, true, true, true, true, true, true, true, false] rfl ?_
        exact hI _ _ _ rfl
      · have h := it_pos hc h
        obtain ⟨x_17, ex_18, h⟩ := lett_some h
        refine T_iinc (L' := [aR (some 0), aU, aU, aR (some p3), aR (some p4), aI x5, aI x_17, aI x7, aI r_13]) dX8_doubt_91 rfl (ic_inc ic_1 ex_18) (Nat.le_of_ble_eq_true rfl) rfl ?_
        obtain ⟨x_19, ex_20, h⟩ := lett_some h
        refine T_iinc (L' := [aR (some 0), aU, aU, aR (some p3), aR (some p4), aI x5, aI x_17, aI x_19, aI r_13]) dX8_doubt_94 rfl (ic_inc ic_1 ex_20) (Nat.le_of_ble_eq_true rfl) rfl ?_
        refine T_goto (tgt := 47) dX8_doubt_97 (by decide) ?_
        obtain rfl := sm1 h
        refine T_mask [true, true, true, true, true, true, true, true, false] rfl ?_
        exact hI _ _ _ rfl
    · have h := it_neg hc h
      obtain ⟨x_21, ex_22, h⟩ := lett_some h
      refine T_iinc (L' := [aR (some 0), aU, aU, aR (some p3), aR (some p4), aI x_21, aI x6, aI x7, aI r_13]) dX8_doubt_80 rfl (ic_inc ic_1 ex_22) (Nat.le_of_ble_eq_true rfl) rfl ?_
      refine T_goto (tgt := 94) dX8_doubt_83 (by decide) ?_
      obtain ⟨x_23, ex_24, h⟩ := lett_some h
      refine T_iinc (L' := [aR (some 0), aU, aU, aR (some p3), aR (some p4), aI x_21, aI x6, aI x_23, aI r_13]) dX8_doubt_94 rfl (ic_inc ic_1 ex_24) (Nat.le_of_ble_eq_true rfl) rfl ?_
      refine T_goto (tgt := 47) dX8_doubt_97 (by decide) ?_
      obtain rfl := sm1 h
      refine T_mask [true, true, true, true, true, true, true, true, false] rfl ?_
      exact hI _ _ _ rfl
set_option maxRecDepth 100000 in
set_option maxHeartbeats 4000000 in
theorem l_X8_doubt_L47 (tl : Option Nat) (tt : Option Nat) (lw : Nat → Option Nat) (M : Mem) (p3 : Nat) (p4 : Nat) (h3 : isX3 p3 = true) (h4 : isX1 p4 = true) {Po : Po_} (er : Int32) (eM : Mem) : ∀ (k : Nat) (x5 : Int32) (x6 : Int32) (x7 : Int32), loop (X8_doubt_L47 lw M p3 p4) k (x5, x6, x7) = some (er, eM) → (Po (vI er) LAYC (rfs lw tl tt) eM) → T RX8 cX8_doubt 9 (some .int) 0 5 0 0 false Po 47 [aR (some 0), aU, aU, aR (some p3), aR (some p4), aI x5, aI x6, aI x7, aU] [] LAYC (rfs lw tl tt) M 0 0 := by
  intro k
  induction k with
  | zero => intro x5 x6 x7 h; cases h
  | succ k ih =>
    intro x5 x6 x7 h hE
    obtain ⟨x, hx, hx1, hx2⟩ := loop_succ h
    exact s_X8_doubt_L47  tl tt lw M p3 p4 h3 h4 x5 x6 x7 x hx (fun q0 q1 q2 e => ih q0 q1 q2 (hx1 _ e) hE) (fun q0 q1 e => by cases hx2 _ e; exact hE)
set_option maxRecDepth 100000 in
set_option maxHeartbeats 4000000 in
theorem m_X8_doubt (tl : Option Nat) (tt : Option Nat) (lw : Nat → Option Nat) (M : Mem) (x1 : Int32) (x2 : Int32) (r : Int32) (M' : Mem) (h : F_X8_doubt lw M x1 x2 = some (r, M')) : Cal yX8_doubt cX8_doubt 9 (some .int) 0 5 0 0 false [vR (some 0), vI x1, vI x2] LAYC (rfs lw tl tt) M (eqp (vI r) LAYC (rfs lw tl tt) M') := by
  refine Cal.of (by decide +kernel) (Nat.le_of_ble_eq_true rfl) (fun h => by cases h) ?_
  unfold F_X8_doubt at h
  show T RX8 cX8_doubt 9 (some .int) 0 5 0 0 false (eqp (vI r) LAYC (rfs lw tl tt) M') 0 [aR (some 0), aI x1, aI x2, aU, aU, aU, aU, aU, aU] [] LAYC (rfs lw tl tt) M 0 0
  refine T_aload_n dX8_doubt_0 rfl ?_
  refine T_iload_n dX8_doubt_1 rfl ?_
  obtain ⟨o_1, hc_2, h⟩ := bd1_some h
  refine T_cvq (as := [vI x1]) dX8_doubt_2 cw_X8_lawOf ml_X8_175 mi_X8_lawOf se_X8_lawOf lyC_0 rfl (by decide) rfl (Nat.le_of_ble_eq_true rfl) (Nat.le_of_ble_eq_true rfl) (m_X8_lawOf tl tt lw M x1  _ hc_2) ?_
  refine T_astore_n (i := 3) (L' := [aR (some 0), aI x1, aI x2, aR o_1, aU, aU, aU, aU, aU]) dX8_doubt_5 rfl (Nat.le_of_ble_eq_true rfl) rfl ?_
  refine T_aload_n dX8_doubt_6 rfl ?_
  refine T_iload_n dX8_doubt_7 rfl ?_
  obtain ⟨o_3, hc_4, h⟩ := bd1_some h
  refine T_cvq (as := [vI x2]) dX8_doubt_8 cw_X8_imageOf ml_X8_225 mi_X8_imageOf se_X8_imageOf lyC_0 rfl (by decide) rfl (Nat.le_of_ble_eq_true rfl) (Nat.le_of_ble_eq_true rfl) (m_X8_imageOf lw tl tt M x2  _ hc_4) ?_
  refine T_astore (i := 4) (L' := [aR (some 0), aI x1, aI x2, aR o_1, aR o_3, aU, aU, aU, aU]) dX8_doubt_11 (Nat.le_of_ble_eq_true rfl) rfl ?_
  refine T_aload_n dX8_doubt_13 rfl ?_
  cases o_1 with
  | none =>
    have h := oc_none h
    refine T_ifnull0 (tgt := 22) dX8_doubt_14 (by decide) ?_
    refine T_iconst dX8_doubt_22 ic_m1 ?_
    obtain ⟨rfl, rfl⟩ := sm2 h
    exact T_iret dX8_doubt_23 ⟨rfl, rfl, rfl, rfl⟩
  | some q_5 =>
    have h := oc_some h
    refine T_ifnull1 dX8_doubt_14 ?_
    refine T_aload dX8_doubt_17 rfl ?_
    cases o_3 with
    | none =>
      have h := oc_none h
      refine T_ifnonnull0 dX8_doubt_19 ?_
      refine T_iconst dX8_doubt_22 ic_m1 ?_
      obtain ⟨rfl, rfl⟩ := sm2 h
      exact T_iret dX8_doubt_23 ⟨rfl, rfl, rfl, rfl⟩
    | some q_6 =>
      have h := oc_some h
      refine T_ifnonnull1 (tgt := 24) dX8_doubt_19 (by decide) ?_
      refine T_aload dX8_doubt_24 rfl ?_
      obtain ⟨hf_7, h⟩ := chk_some h
      refine T_getZ dX8_doubt_26 clOK_X1 fl_X8_210 (lyX1 hf_7) rfl ?_
      refine T_if_ne (tgt := 38) dX8_doubt_29 (by decide) (fun hc => ?_) (fun hc => ?_)
      · have h := it_neg hc h
        refine T_iconst dX8_doubt_38 ic_0 ?_
        refine T_istore (i := 5) (L' := [aR (some 0), aI x1, aI x2, aR (some q_5), aR (some q_6), aI 0, aU, aU, aU]) dX8_doubt_39 (Nat.le_of_ble_eq_true rfl) rfl ?_
        refine T_iconst dX8_doubt_41 ic_0 ?_
        refine T_istore (i := 6) (L' := [aR (some 0), aI x1, aI x2, aR (some q_5), aR (some q_6), aI 0, aI 0, aU, aU]) dX8_doubt_42 (Nat.le_of_ble_eq_true rfl) rfl ?_
        refine T_iconst dX8_doubt_44 ic_0 ?_
        refine T_istore (i := 7) (L' := [aR (some 0), aI x1, aI x2, aR (some q_5), aR (some q_6), aI 0, aI 0, aI 0, aU]) dX8_doubt_45 (Nat.le_of_ble_eq_true rfl) rfl ?_
        obtain ⟨hf_8, h⟩ := chk_some h
        refine T_mask [true, false, false, true, true, true, true, true, true] rfl ?_
        exact l_X8_doubt_L47  tl tt lw M q_5 q_6 hf_8 hf_7 _ _ FU 0 0 0 h ⟨rfl, rfl, rfl, rfl⟩
      · have h := it_pos hc h
        refine T_aload_n dX8_doubt_32 rfl ?_
        refine T_iconst dX8_doubt_33 ic_1 ?_
        obtain ⟨r_25, M_26, hc_27, h⟩ := bd2_some h
        refine T_cvi (as := [vI 1]) dX8_doubt_34 cw_X8_found ml_X8_100 mi_X8_found se_X8_found lyC_0 rfl (by decide) rfl (Nat.le_of_ble_eq_true rfl) (Nat.le_of_ble_eq_true rfl) (m_X8_found lw tl tt M 1  _ _ hc_27) ?_
        obtain ⟨rfl, rfl⟩ := sm2 h
        exact T_iret dX8_doubt_37 ⟨rfl, rfl, rfl, rfl⟩
