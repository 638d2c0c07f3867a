def X9_text_L34 (x1 : Int32) (x2 : Int32) : Int32 × Mem → Option ((Int32 × Mem) ⊕ (Int32 × Mem))
  | (x3, M) =>
    if (nI 60) ≤ x3 then some (.inr (x2, M))
    else chk (inb (((nI 60) * x1) + x3) 240 = true) (lett (sI M 6 (((nI 60) * x1) + x3).toNatClampNeg (nI 32)) fun M_6 => lett (x3 + 1) fun x_9 => some (.inl (x_9, M_6)))
def F_X9_text (M : Mem) (x1 : Int32) (x2 : Int32) : Option (Int32 × Mem) :=
 bd1 (F_X9_isText x1) fun r_1 => if r_1 = 0 then some ((-1), M)
 else if x2 ≤ (nI 60) then if 0 ≤ x2 then chk (inb x1 4 = true) (lett (sI M 5 x1.toNatClampNeg x2) fun M_3 => loop (X9_text_L34 x1 x2) FU (0, M_3))
 else bd2 (F_X9_meet M (nI 5)) fun r_11 M_12 => some (r_11, M_12)
 else some ((-1), M)
set_option maxRecDepth 100000 in
set_option maxHeartbeats 4000000 in
theorem s_X9_text_L34 (x1 : Int32) (x2 : Int32) (x3 : Int32) (M : Mem) {Po : Po_} (x : (Int32 × Mem) ⊕ (Int32 × Mem)) (h : X9_text_L34 x1 x2 (x3, M) = some x) (hI : ∀ (ix3 : Int32) (iM : Mem), x = .inl (ix3, iM) → T RX9 cX9_text 4 (some .int) 0 3 0 0 false Po 34 [aR (some 0), aI x1, aI x2, aI ix3] [] LAYM rfm iM 0 0) (hE0 : ∀ (er : Int32) (eM : Mem), x = .inr (er, eM) → Po (vI er) LAYM rfm eM) : T RX9 cX9_text 4 (some .int) 0 3 0 0 false Po 34 [aR (some 0), aI x1, aI x2, aI x3] [] LAYM rfm M 0 0 := by
  unfold X9_text_L34 at h
  simp only at h
  refine T_iload_n dX9_text_34 rfl ?_
  refine T_bipush dX9_text_35 bp_60 ?_
  refine T_icmp_ge (tgt := 59) dX9_text_37 (by decide) (fun hc => ?_) (fun hc => ?_)
  · have h := it_pos hc h
    refine T_iload_n dX9_text_59 rfl ?_
    obtain rfl := sm1 h
    exact T_iret dX9_text_60 (hE0 _ _ rfl)
  · have h := it_neg hc h
    refine T_aload_n dX9_text_40 rfl ?_
    refine T_getR dX9_text_41 clOK_X9 fl_X9_29 lyM_0 rfl rfl ?_
    refine T_bipush dX9_text_44 bp_60 ?_
    refine T_iload_n dX9_text_46 rfl ?_
    refine T_imul dX9_text_47 ?_
    refine T_iload_n dX9_text_48 rfl ?_
    refine T_iadd dX9_text_49 ?_
    refine T_bipush dX9_text_50 bp_32 ?_
    obtain ⟨hi_8, h⟩ := chk_some h
    obtain ⟨M_6, eM_7, h⟩ := lett_some h
    refine T_iast dX9_text_52 lyM_6 (inb_in hi_8) eM_7 ?_
    obtain ⟨x_9, ex_10, h⟩ := lett_some h
    refine T_iinc (L' := [aR (some 0), aI x1, aI x2, aI x_9]) dX9_text_53 rfl (ic_inc ic_1 ex_10) (Nat.le_of_ble_eq_true rfl) rfl ?_
    refine T_goto (tgt := 34) dX9_text_56 (by decide) ?_
    obtain rfl := sm1 h
    exact hI _ _ rfl
set_option maxRecDepth 100000 in
set_option maxHeartbeats 4000000 in
theorem l_X9_text_L34 (x1 : Int32) (x2 : Int32) {Po : Po_} (er : Int32) (eM : Mem) : ∀ (k : Nat) (x3 : Int32) (M : Mem), loop (X9_text_L34 x1 x2) k (x3, M) = some (er, eM) → (Po (vI er) LAYM rfm eM) → T RX9 cX9_text 4 (some .int) 0 3 0 0 false Po 34 [aR (some 0), aI x1, aI x2, aI x3] [] LAYM rfm M 0 0 := by
  intro k
  induction k with
  | zero => intro x3 M h; cases h
  | succ k ih =>
    intro x3 M h hE
    obtain ⟨x, hx, hx1, hx2⟩ := loop_succ h
    exact s_X9_text_L34  x1 x2  x3 M x hx (fun q0 q1 e => ih q0 q1 (hx1 _ e) hE) (fun q0 q1 e => by cases hx2 _ e; exact hE)
set_option maxRecDepth 100000 in
set_option maxHeartbeats 4000000 in
theorem m_X9_text (M : Mem) (x1 : Int32) (x2 : Int32) (r : Int32) (M' : Mem) (h : F_X9_text M x1 x2 = some (r, M')) : Cal yX9_text cX9_text 4 (some .int) 0 3 0 0 false [vR (some 0), vI x1, vI x2] LAYM rfm M (eqp (vI r) LAYM rfm M') := by
  refine Cal.of (by decide +kernel) (Nat.le_of_ble_eq_true rfl) (fun h => by cases h) ?_
  unfold F_X9_text at h
  show T RX9 cX9_text 4 (some .int) 0 3 0 0 false (eqp (vI r) LAYM rfm M') 0 [aR (some 0), aI x1, aI x2, aU] [] LAYM rfm M 0 0
  refine T_iload_n dX9_text_0 rfl ?_
  obtain ⟨r_1, hc_2, h⟩ := bd1_some h
  refine T_csi (as := [vI x1]) dX9_text_1 cw_X9_isText ml_X9_91 mt_X9_isText rfl (Nat.le_of_ble_eq_true rfl) (Nat.le_of_ble_eq_true rfl) (m_X9_isText M x1  _ hc_2) ?_
  refine T_if_eq (tgt := 13) dX9_text_4 (by decide) (fun hc => ?_) (fun hc => ?_)
  · have h := it_pos hc h
    refine T_iconst dX9_text_13 ic_m1 ?_
    obtain ⟨rfl, rfl⟩ := sm2 h
    exact T_iret dX9_text_14 ⟨rfl, rfl, rfl, rfl⟩
  · have h := it_neg hc h
    refine T_iload_n dX9_text_7 rfl ?_
    refine T_bipush dX9_text_8 bp_60 ?_
    refine T_icmp_le (tgt := 15) dX9_text_10 (by decide) (fun hc => ?_) (fun hc => ?_)
    · have h := it_pos hc h
      refine T_iload_n dX9_text_15 rfl ?_
      refine T_if_ge (tgt := 25) dX9_text_16 (by decide) (fun hc => ?_) (fun hc => ?_)
      · have h := it_pos hc h
        refine T_aload_n dX9_text_25 rfl ?_
        refine T_getR dX9_text_26 clOK_X9 fl_X9_26 lyM_0 rfl rfl ?_
        refine T_iload_n dX9_text_29 rfl ?_
        refine T_iload_n dX9_text_30 rfl ?_
        obtain ⟨hi_5, h⟩ := chk_some h
        obtain ⟨M_3, eM_4, h⟩ := lett_some h
        refine T_iast dX9_text_31 lyM_5 (inb_in hi_5) eM_4 ?_
        refine T_iconst dX9_text_32 ic_0 ?_
        refine T_istore_n (i := 3) (L' := [aR (some 0), aI x1, aI x2, aI 0]) dX9_text_33 rfl (Nat.le_of_ble_eq_true rfl) rfl ?_
        exact l_X9_text_L34  x1 x2  _ _ FU 0 M_3 h ⟨rfl, rfl, rfl, rfl⟩
      · have h := it_neg hc h
        refine T_aload_n dX9_text_19 rfl ?_
        refine T_iconst dX9_text_20 ic_5 ?_
        obtain ⟨r_11, M_12, hc_13, h⟩ := bd2_some h
        refine T_cvi (as := [vI (nI 5)]) dX9_text_21 cw_X9_meet ml_X9_87 mi_X9_meet se_X9_meet lyM_0 rfl (by decide) rfl (Nat.le_of_ble_eq_true rfl) (Nat.le_of_ble_eq_true rfl) (m_X9_meet  M (nI 5)  _ _ hc_13) ?_
        obtain ⟨rfl, rfl⟩ := sm2 h
        exact T_iret dX9_text_24 ⟨rfl, rfl, rfl, rfl⟩
    · have h := it_neg hc h
      refine T_iconst dX9_text_13 ic_m1 ?_
      obtain ⟨rfl, rfl⟩ := sm2 h
      exact T_iret dX9_text_14 ⟨rfl, rfl, rfl, rfl⟩
def F_X9_put (M : Mem) (x1 : Int32) (x2 : Int32) (x3 : Int32) : Option (Int32 × Mem) :=
 bd2 (F_X9_askedText M x1) fun r_1 M_2 => if 0 ≤ r_1 then chk (inb x1 4 = true) (bd1 (F_X9_in x2 0 ((gI M_2 5 x1.toNatClampNeg) - 1)) fun r_5 => if r_5 = 0 then bd2 (F_X9_meet M_2 (nI 2)) fun r_13 M_14 => some (r_13, M_14)
 else chk (inb (((nI 60) * x1) + x2) 240 = true) (lett (gI M_2 6 (((nI 60) * x1) + x2).toNatClampNeg) fun x_8 => chk (inb (((nI 60) * x1) + x2) 240 = true) (lett (sI M_2 6 (((nI 60) * x1) + x2).toNatClampNeg x3.toInt8.toInt32) fun M_10 => some (x_8 + (nI 1000), M_10))))
 else some (r_1, M_2)
set_option maxRecDepth 100000 in
set_option maxHeartbeats 4000000 in
theorem m_X9_put (M : Mem) (x1 : Int32) (x2 : Int32) (x3 : Int32) (r : Int32) (M' : Mem) (h : F_X9_put M x1 x2 x3 = some (r, M')) : Cal yX9_put cX9_put 6 (some .int) 0 4 0 0 false [vR (some 0), vI x1, vI x2, vI x3] LAYM rfm M (eqp (vI r) LAYM rfm M') := by
  refine Cal.of (by decide +kernel) (Nat.le_of_ble_eq_true rfl) (fun h => by cases h) ?_
  unfold F_X9_put at h
  show T RX9 cX9_put 6 (some .int) 0 4 0 0 false (eqp (vI r) LAYM rfm M') 0 [aR (some 0), aI x1, aI x2, aI x3, aU, aU] [] LAYM rfm M 0 0
  refine T_aload_n dX9_put_0 rfl ?_
  refine T_iload_n dX9_put_1 rfl ?_
  obtain ⟨r_1, M_2, hc_3, h⟩ := bd2_some h
  refine T_cvi (as := [vI x1]) dX9_put_2 cw_X9_askedText ml_X9_111 mi_X9_askedText se_X9_askedText lyM_0 rfl (by decide) rfl (Nat.le_of_ble_eq_true rfl) (Nat.le_of_ble_eq_true rfl) (m_X9_askedText  M x1  _ _ hc_3) ?_
  refine T_istore (i := 4) (L' := [aR (some 0), aI x1, aI x2, aI x3, aI r_1, aU]) dX9_put_5 (Nat.le_of_ble_eq_true rfl) rfl ?_
  refine T_iload dX9_put_7 rfl ?_
  refine T_if_ge (tgt := 15) dX9_put_9 (by decide) (fun hc => ?_) (fun hc => ?_)
  · have h := it_pos hc h
    refine T_iload_n dX9_put_15 rfl ?_
    refine T_iconst dX9_put_16 ic_0 ?_
    refine T_aload_n dX9_put_17 rfl ?_
    refine T_getR dX9_put_18 clOK_X9 fl_X9_26 lyM_0 rfl rfl ?_
    refine T_iload_n dX9_put_21 rfl ?_
    obtain ⟨hi_4, h⟩ := chk_some h
    refine T_iald dX9_put_22 lyM_5 (inb_in hi_4) ?_
    refine T_iconst dX9_put_23 ic_1 ?_
    refine T_isub dX9_put_24 ?_
    obtain ⟨r_5, hc_6, h⟩ := bd1_some h
    refine T_csi (as := [vI x2, vI 0, vI ((gI M_2 5 x1.toNatClampNeg) - 1)]) dX9_put_25 cw_X9_in ml_X9_79 mt_X9_in rfl (Nat.le_of_ble_eq_true rfl) (Nat.le_of_ble_eq_true rfl) (m_X9_in M_2 x2 0 ((gI M_2 5 x1.toNatClampNeg) - 1)  _ hc_6) ?_
    refine T_if_ne (tgt := 37) dX9_put_28 (by decide) (fun hc => ?_) (fun hc => ?_)
    · have h := it_neg hc h
      refine T_aload_n dX9_put_37 rfl ?_
      refine T_getR dX9_put_38 clOK_X9 fl_X9_29 lyM_0 rfl rfl ?_
      refine T_bipush dX9_put_41 bp_60 ?_
      refine T_iload_n dX9_put_43 rfl ?_
      refine T_imul dX9_put_44 ?_
      refine T_iload_n dX9_put_45 rfl ?_
      refine T_iadd dX9_put_46 ?_
      obtain ⟨hi_7, h⟩ := chk_some h
      refine T_iald dX9_put_47 lyM_6 (inb_in hi_7) ?_
      obtain ⟨x_8, ex_9, h⟩ := lett_some h
      refine T_topI ex_9 ?_
      refine T_istore (i := 5) (L' := [aR (some 0), aI x1, aI x2, aI x3, aI r_1, aI x_8]) dX9_put_48 (Nat.le_of_ble_eq_true rfl) rfl ?_
      refine T_aload_n dX9_put_50 rfl ?_
      refine T_getR dX9_put_51 clOK_X9 fl_X9_29 lyM_0 rfl rfl ?_
      refine T_bipush dX9_put_54 bp_60 ?_
      refine T_iload_n dX9_put_56 rfl ?_
      refine T_imul dX9_put_57 ?_
      refine T_iload_n dX9_put_58 rfl ?_
      refine T_iadd dX9_put_59 ?_
      refine T_iload_n dX9_put_60 rfl ?_
      refine T_i2b dX9_put_61 ?_
      obtain ⟨hi_12, h⟩ := chk_some h
      obtain ⟨M_10, eM_11, h⟩ := lett_some h
      refine T_iast dX9_put_62 lyM_6 (inb_in hi_12) eM_11 ?_
      refine T_iload dX9_put_63 rfl ?_
      refine T_sipush dX9_put_65 sp_1000 ?_
      refine T_iadd dX9_put_68 ?_
      obtain ⟨rfl, rfl⟩ := sm2 h
      exact T_iret dX9_put_69 ⟨rfl, rfl, rfl, rfl⟩
    · have h := it_pos hc h
      refine T_aload_n dX9_put_31 rfl ?_
      refine T_iconst dX9_put_32 ic_2 ?_
      obtain ⟨r_13, M_14, hc_15, h⟩ := bd2_some h
      refine T_cvi (as := [vI (nI 2)]) dX9_put_33 cw_X9_meet ml_X9_87 mi_X9_meet se_X9_meet lyM_0 rfl (by decide) rfl (Nat.le_of_ble_eq_true rfl) (Nat.le_of_ble_eq_true rfl) (m_X9_meet  M_2 (nI 2)  _ _ hc_15) ?_
      obtain ⟨rfl, rfl⟩ := sm2 h
      exact T_iret dX9_put_36 ⟨rfl, rfl, rfl, rfl⟩
  · have h := it_neg hc h
    refine T_iload dX9_put_12 rfl ?_
    obtain ⟨rfl, rfl⟩ := sm2 h
    exact T_iret dX9_put_14 ⟨rfl, rfl, rfl, rfl⟩
def F_X9_here (M : Mem) (x1 : Int32) : Option (Int32) :=
 chk (inb x1 4 = true) (if (gI M 5 x1.toNatClampNeg) ≤ (gI M 0 17) then some (-9)
 else chk (inb (((nI 60) * x1) + (gI M 0 17)) 240 = true) (some (gI M 6 (((nI 60) * x1) + (gI M 0 17)).toNatClampNeg)))
set_option maxRecDepth 100000 in
set_option maxHeartbeats 4000000 in
theorem m_X9_here (M : Mem) (x1 : Int32) (r : Int32) (h : F_X9_here M x1 = some r) : Cal yX9_here cX9_here 2 (some .int) 0 1 0 0 false [vR (some 0), vI x1] LAYM rfm M (eqp (vI r) LAYM rfm M) := by
  refine Cal.of (by decide +kernel) (Nat.le_of_ble_eq_true rfl) (fun h => by cases h) ?_
  unfold F_X9_here at h
  show T RX9 cX9_here 2 (some .int) 0 1 0 0 false (eqp (vI r) LAYM rfm M) 0 [aR (some 0), aI x1] [] LAYM rfm M 0 0
  refine T_aload_n dX9_here_0 rfl ?_
  refine T_getI dX9_here_1 clOK_X9 fl_X9_114 lyM_0 rfl ?_
  refine T_aload_n dX9_here_4 rfl ?_
  refine T_getR dX9_here_5 clOK_X9 fl_X9_26 lyM_0 rfl rfl ?_
  refine T_iload_n dX9_here_8 rfl ?_
  obtain ⟨hi_1, h⟩ := chk_some h
  refine T_iald dX9_here_9 lyM_5 (inb_in hi_1) ?_
  refine T_icmp_ge (tgt := 30) dX9_here_10 (by decide) (fun hc => ?_) (fun hc => ?_)
  · have h := it_pos hc h
    refine T_bipush dX9_here_30 bp_m9 ?_
    obtain rfl := sm1 h
    exact T_iret dX9_here_32 ⟨rfl, rfl, rfl, rfl⟩
  · have h := it_neg hc h
    refine T_aload_n dX9_here_13 rfl ?_
    refine T_getR dX9_here_14 clOK_X9 fl_X9_29 lyM_0 rfl rfl ?_
    refine T_bipush dX9_here_17 bp_60 ?_
    refine T_iload_n dX9_here_19 rfl ?_
    refine T_imul dX9_here_20 ?_
    refine T_aload_n dX9_here_21 rfl ?_
    refine T_getI dX9_here_22 clOK_X9 fl_X9_114 lyM_0 rfl ?_
    refine T_iadd dX9_here_25 ?_
    obtain ⟨hi_2, h⟩ := chk_some h
    refine T_iald dX9_here_26 lyM_6 (inb_in hi_2) ?_
    refine T_goto (tgt := 32) dX9_here_27 (by decide) ?_
    obtain rfl := sm1 h
    exact T_iret dX9_here_32 ⟨rfl, rfl, rfl, rfl⟩
def F_X9_figure (M : Mem) (x1 : Int32) (x2 : Int32) (x3 : Int32) : Option (Int32 × Mem) :=
 bd1 (F_X9_here M x1) fun r_1 => lett (r_1 - (nI 48)) fun x_3 => bd1 (F_X9_in x_3 0 x3) fun r_5 => if r_5 = 0 then some (0, M)
 else chk (inb x2 26 = true) (lett (sI M 10 x2.toNatClampNeg x_3) fun M_7 => lett (sI M_7 0 17 ((gI M_7 0 17) + 1)) fun M_10 => some (1, M_10))
set_option maxRecDepth 100000 in
set_option maxHeartbeats 4000000 in
theorem m_X9_figure (M : Mem) (x1 : Int32) (x2 : Int32) (x3 : Int32) (r : Int32) (M' : Mem) (h : F_X9_figure M x1 x2 x3 = some (r, M')) : Cal yX9_figure cX9_figure 5 (some .boolean) 0 2 0 0 false [vR (some 0), vI x1, vI x2, vI x3] LAYM rfm M (eqp (vI r) LAYM rfm M') := by
  refine Cal.of (by decide +kernel) (Nat.le_of_ble_eq_true rfl) (fun h => by cases h) ?_
  unfold F_X9_figure at h
  show T RX9 cX9_figure 5 (some .boolean) 0 2 0 0 false (eqp (vI r) LAYM rfm M') 0 [aR (some 0), aI x1, aI x2, aI x3, aU] [] LAYM rfm M 0 0
  refine T_aload_n dX9_figure_0 rfl ?_
  refine T_iload_n dX9_figure_1 rfl ?_
  obtain ⟨r_1, hc_2, h⟩ := bd1_some h
  refine T_cvi (as := [vI x1]) dX9_figure_2 cw_X9_here ml_X9_117 mi_X9_here se_X9_here lyM_0 rfl (by decide) rfl (Nat.le_of_ble_eq_true rfl) (Nat.le_of_ble_eq_true rfl) (m_X9_here  M x1  _ hc_2) ?_
  refine T_bipush dX9_figure_5 bp_48 ?_
  refine T_isub dX9_figure_7 ?_
  obtain ⟨x_3, ex_4, h⟩ := lett_some h
  refine T_topI ex_4 ?_
  refine T_istore (i := 4) (L' := [aR (some 0), aI x1, aI x2, aI x3, aI x_3]) dX9_figure_8 (Nat.le_of_ble_eq_true rfl) rfl ?_
  refine T_iload dX9_figure_10 rfl ?_
  refine T_iconst dX9_figure_12 ic_0 ?_
  refine T_iload_n dX9_figure_13 rfl ?_
  obtain ⟨r_5, hc_6, h⟩ := bd1_some h
  refine T_csi (as := [vI x_3, vI 0, vI x3]) dX9_figure_14 cw_X9_in ml_X9_79 mt_X9_in rfl (Nat.le_of_ble_eq_true rfl) (Nat.le_of_ble_eq_true rfl) (m_X9_in M x_3 0 x3  _ hc_6) ?_
  refine T_if_ne (tgt := 22) dX9_figure_17 (by decide) (fun hc => ?_) (fun hc => ?_)
  · have h := it_neg hc h
    refine T_aload_n dX9_figure_22 rfl ?_
    refine T_getR dX9_figure_23 clOK_X9 fl_X9_41 lyM_0 rfl rfl ?_
    refine T_iload_n dX9_figure_26 rfl ?_
    refine T_iload dX9_figure_27 rfl ?_
    obtain ⟨hi_9, h⟩ := chk_some h
    obtain ⟨M_7, eM_8, h⟩ := lett_some h
    refine T_iast dX9_figure_29 lyM_10 (inb_in hi_9) eM_8 ?_
    refine T_aload_n dX9_figure_30 rfl ?_
    refine T_dup dX9_figure_31 rfl ?_
    refine T_getI dX9_figure_32 clOK_X9 fl_X9_114 lyM_0 rfl ?_
    refine T_iconst dX9_figure_35 ic_1 ?_
    refine T_iadd dX9_figure_36 ?_
    obtain ⟨M_10, eM_11, h⟩ := lett_some h
    refine T_putI dX9_figure_37 clOK_X9 fl_X9_114 (Or.inl rfl) lyM_0 rfl rfl eM_11 ?_
    refine T_iconst dX9_figure_40 ic_1 ?_
    obtain ⟨rfl, rfl⟩ := sm2 h
    exact T_zret dX9_figure_41 (Or.inr rfl) ⟨rfl, rfl, rfl, rfl⟩
  · have h := it_pos hc h
    refine T_iconst dX9_figure_20 ic_0 ?_
    obtain ⟨rfl, rfl⟩ := sm2 h
    exact T_zret dX9_figure_21 (Or.inl rfl) ⟨rfl, rfl, rfl, rfl⟩
def X9_sign_J14 (M : Mem) (s0 : Int32) : Option (Int32 × Mem) :=
 if s0 = 0 then lett (sI M 0 17 ((gI M 0 17) + 0)) fun M_3 => chk (s0 = 0 ∨ s0 = 1) (some (s0, M_3))
 else lett (sI M 0 17 ((gI M 0 17) + 1)) fun M_6 => chk (s0 = 0 ∨ s0 = 1) (some (s0, M_6))
def F_X9_sign (M : Mem) (x1 : Int32) (x2 : Int32) : Option (Int32 × Mem) :=
 bd1 (F_X9_here M x1) fun r_1 => if r_1 = x2 then X9_sign_J14 M 1
 else X9_sign_J14 M 0
set_option maxRecDepth 100000 in
set_option maxHeartbeats 4000000 in
theorem j_X9_sign_J14 (M : Mem) (s0 : Int32) (r : Int32) (M' : Mem) (h : X9_sign_J14 M s0 = some (r, M')) : T RX9 cX9_sign 4 (some .boolean) 0 2 0 0 false (eqp (vI r) LAYM rfm M') 14 [aR (some 0), aU, aU, aU] [vI s0] LAYM rfm M 0 0 := by
  unfold X9_sign_J14 at h
  refine T_istore_n (i := 3) (L' := [aR (some 0), aU, aU, aI s0]) dX9_sign_14 rfl (Nat.le_of_ble_eq_true rfl) rfl ?_
  refine T_aload_n dX9_sign_15 rfl ?_
  refine T_dup dX9_sign_16 rfl ?_
  refine T_getI dX9_sign_17 clOK_X9 fl_X9_114 lyM_0 rfl ?_
  refine T_iload_n dX9_sign_20 rfl ?_
  refine T_if_eq (tgt := 28) dX9_sign_21 (by decide) (fun hc => ?_) (fun hc => ?_)
  · have h := it_pos hc h
    refine T_iconst dX9_sign_28 ic_0 ?_
    refine T_iadd dX9_sign_29 ?_
    obtain ⟨M_3, eM_4, h⟩ := lett_some h
    refine T_putI dX9_sign_30 clOK_X9 fl_X9_114 (Or.inl rfl) lyM_0 rfl rfl eM_4 ?_
    refine T_iload_n dX9_sign_33 rfl ?_
    obtain ⟨hb_5, h⟩ := chk_some h
    obtain ⟨rfl, rfl⟩ := sm2 h
    exact T_zret dX9_sign_34 hb_5 ⟨rfl, rfl, rfl, rfl⟩
  · have h := it_neg hc h
    refine T_iconst dX9_sign_24 ic_1 ?_
    refine T_goto (tgt := 29) dX9_sign_25 (by decide) ?_
    refine T_iadd dX9_sign_29 ?_
    obtain ⟨M_6, eM_7, h⟩ := lett_some h
    refine T_putI dX9_sign_30 clOK_X9 fl_X9_114 (Or.inl rfl) lyM_0 rfl rfl eM_7 ?_
    refine T_iload_n dX9_sign_33 rfl ?_
    obtain ⟨hb_8, h⟩ := chk_some h
    obtain ⟨rfl, rfl⟩ := sm2 h
    exact T_zret dX9_sign_34 hb_8 ⟨rfl, rfl, rfl, rfl⟩
set_option maxRecDepth 100000 in
set_option maxHeartbeats 4000000 in
theorem m_X9_sign (M : Mem) (x1 : Int32) (x2 : Int32) (r : Int32) (M' : Mem) (h : F_X9_sign M x1 x2 = some (r, M')) : Cal yX9_sign cX9_sign 4 (some .boolean) 0 2 0 0 false [vR (some 0), vI x1, vI x2] LAYM rfm M (eqp (vI r) LAYM rfm M') := by
  refine Cal.of (by decide +kernel) (Nat.le_of_ble_eq_true rfl) (fun h => by cases h) ?_
  unfold F_X9_sign at h
  show T RX9 cX9_sign 4 (some .boolean) 0 2 0 0 false (eqp (vI r) LAYM rfm M') 0 [aR (some 0), aI x1, aI x2, aU] [] LAYM rfm M 0 0
  refine T_aload_n dX9_sign_0 rfl ?_
  refine T_iload_n dX9_sign_1 rfl ?_
  obtain ⟨r_1, hc_2, h⟩ := bd1_some h
  refine T_cvi (as := [vI x1]) dX9_sign_2 cw_X9_here ml_X9_117 mi_X9_here se_X9_here lyM_0 rfl (by decide) rfl (Nat.le_of_ble_eq_true rfl) (Nat.le_of_ble_eq_true rfl) (m_X9_here  M x1  _ hc_2) ?_
  refine T_iload_n dX9_sign_5 rfl ?_
  refine T_icmp_ne (tgt := 13) dX9_sign_6 (by decide) (fun hc => ?_) (fun hc => ?_)
  · have h := it_neg hc h
    refine T_iconst dX9_sign_13 ic_0 ?_
    refine T_mask [true, false, false, true] rfl ?_
    exact j_X9_sign_J14  M 0  _ _ h
  · have h := it_pos hc h
    refine T_iconst dX9_sign_9 ic_1 ?_
    refine T_goto (tgt := 14) dX9_sign_10 (by decide) ?_
    refine T_mask [true, false, false, true] rfl ?_
    exact j_X9_sign_J14  M 1  _ _ h
def X9_readsFirst_L5 (x1 : Int32) : Mem → Option ((Mem) ⊕ (Mem))
  | M =>
    if (nI 4) ≤ (gI M 0 19) then some (.inr M)
    else bd2 (F_X9_figure M x1 (gI M 0 19) (nI 5)) fun r_3 M_4 => if r_3 = 0 then some (.inr M_4)
    else lett (sI M_4 0 19 ((gI M_4 0 19) + 1)) fun M_6 => some (.inl M_6)
def F_X9_readsFirst (M : Mem) (x1 : Int32) : Option (Int32 × Mem) :=
 lett (sI M 0 19 0) fun M_1 => bd1 (loop (X9_readsFirst_L5 x1) FU M_1) fun M_8 => lett (sI M_8 0 18 (gI M_8 0 19)) fun M_9 => if (gI M_9 0 18) ≤ 1 then some (0, M_9)
 else some (1, M_9)
set_option maxRecDepth 100000 in
set_option maxHeartbeats 4000000 in
theorem s_X9_readsFirst_L5 (x1 : Int32) (M : Mem) {Po : Po_} (x : (Mem) ⊕ (Mem)) (h : X9_readsFirst_L5 x1 M = some x) (hI : ∀ (iM : Mem), x = .inl iM → T RX9 cX9_readsFirst 2 (some .boolean) 0 3 0 0 false Po 5 [aR (some 0), aI x1] [] LAYM rfm iM 0 0) (hE0 : ∀ (eM : Mem), x = .inr eM → T RX9 cX9_readsFirst 2 (some .boolean) 0 3 0 0 false Po 39 [aR (some 0), aU] [] LAYM rfm eM 0 0) : T RX9 cX9_readsFirst 2 (some .boolean) 0 3 0 0 false Po 5 [aR (some 0), aI x1] [] LAYM rfm M 0 0 := by
  unfold X9_readsFirst_L5 at h
  simp only at h
  refine T_aload_n dX9_readsFirst_5 rfl ?_
  refine T_getI dX9_readsFirst_6 clOK_X9 fl_X9_120 lyM_0 rfl ?_
  refine T_iconst dX9_readsFirst_9 ic_4 ?_
  refine T_icmp_ge (tgt := 39) dX9_readsFirst_10 (by decide) (fun hc => ?_) (fun hc => ?_)
  · have h := it_pos hc h
    obtain rfl := sm1 h
    refine T_mask [true, false] rfl ?_
    exact hE0 _ rfl
  · have h := it_neg hc h
    refine T_aload_n dX9_readsFirst_13 rfl ?_
    refine T_iload_n dX9_readsFirst_14 rfl ?_
    refine T_aload_n dX9_readsFirst_15 rfl ?_
    refine T_getI dX9_readsFirst_16 clOK_X9 fl_X9_120 lyM_0 rfl ?_
    refine T_iconst dX9_readsFirst_19 ic_5 ?_
    obtain ⟨r_3, M_4, hc_5, h⟩ := bd2_some h
    refine T_cvi (as := [vI x1, vI (gI M 0 19), vI (nI 5)]) dX9_readsFirst_20 cw_X9_figure ml_X9_123 mi_X9_figure se_X9_figure lyM_0 rfl (by decide) rfl (Nat.le_of_ble_eq_true rfl) (Nat.le_of_ble_eq_true rfl) (m_X9_figure  M x1 (gI M 0 19) (nI 5)  _ _ hc_5) ?_
    refine T_if_eq (tgt := 39) dX9_readsFirst_23 (by decide) (fun hc => ?_) (fun hc => ?_)
    · have h := it_pos hc h
      obtain rfl := sm1 h
      refine T_mask [true, false] rfl ?_
      exact hE0 _ rfl
    · have h := it_neg hc h
      refine T_aload_n dX9_readsFirst_26 rfl ?_
      refine T_dup dX9_readsFirst_27 rfl ?_
      refine T_getI dX9_readsFirst_28 clOK_X9 fl_X9_120 lyM_0 rfl ?_
      refine T_iconst dX9_readsFirst_31 ic_1 ?_
      refine T_iadd dX9_readsFirst_32 ?_
      obtain ⟨M_6, eM_7, h⟩ := lett_some h
      refine T_putI dX9_readsFirst_33 clOK_X9 fl_X9_120 (Or.inl rfl) lyM_0 rfl rfl eM_7 ?_
      refine T_goto (tgt := 5) dX9_readsFirst_36 (by decide) ?_
      obtain rfl := sm1 h
      exact hI _ rfl
set_option maxRecDepth 100000 in
set_option maxHeartbeats 4000000 in
theorem l_X9_readsFirst_L5 (x1 : Int32) {Po : Po_} (eM : Mem) : ∀ (k : Nat) (M : Mem), loop (X9_readsFirst_L5 x1) k M = some eM → (T RX9 cX9_readsFirst 2 (some .boolean) 0 3 0 0 false Po 39 [aR (some 0), aU] [] LAYM rfm eM 0 0) → T RX9 cX9_readsFirst 2 (some .boolean) 0 3 0 0 false Po 5 [aR (some 0), aI x1] [] LAYM rfm M 0 0 := by
  intro k
  induction k with
  | zero => intro M h; cases h
  | succ k ih =>
    intro M h hE
    obtain ⟨x, hx, hx1, hx2⟩ := loop_succ h
    exact s_X9_readsFirst_L5  x1  M x hx (fun q0 e => ih q0 (hx1 _ e) hE) (fun q0 e => by cases hx2 _ e; exact hE)
set_option maxRecDepth 100000 in
set_option maxHeartbeats 4000000 in
theorem m_X9_readsFirst (M : Mem) (x1 : Int32) (r : Int32) (M' : Mem) (h : F_X9_readsFirst M x1 = some (r, M')) : Cal yX9_readsFirst cX9_readsFirst 2 (some .boolean) 0 3 0 0 false [vR (some 0), vI x1] LAYM rfm M (eqp (vI r) LAYM rfm M') := by
  refine Cal.of (by decide +kernel) (Nat.le_of_ble_eq_true rfl) (fun h => by cases h) ?_
  unfold F_X9_readsFirst at h
  show T RX9 cX9_readsFirst 2 (some .boolean) 0 3 0 0 false (eqp (vI r) LAYM rfm M') 0 [aR (some 0), aI x1] [] LAYM rfm M 0 0
  refine T_aload_n dX9_readsFirst_0 rfl ?_
  refine T_iconst dX9_readsFirst_1 ic_0 ?_
  obtain ⟨M_1, eM_2, h⟩ := lett_some h
  refine T_putI dX9_readsFirst_2 clOK_X9 fl_X9_120 (Or.inl rfl) lyM_0 rfl rfl eM_2 ?_
  obtain ⟨M_8, hl, h⟩ := bd1_some h
  refine l_X9_readsFirst_L5  x1  _ FU M_1 hl ?_
  refine T_aload_n dX9_readsFirst_39 rfl ?_
  refine T_aload_n dX9_readsFirst_40 rfl ?_
  refine T_getI dX9_readsFirst_41 clOK_X9 fl_X9_120 lyM_0 rfl ?_
  obtain ⟨M_9, eM_10, h⟩ := lett_some h
  refine T_putI dX9_readsFirst_44 clOK_X9 fl_X9_126 (Or.inl rfl) lyM_0 rfl rfl eM_10 ?_
  refine T_aload_n dX9_readsFirst_47 rfl ?_
  refine T_getI dX9_readsFirst_48 clOK_X9 fl_X9_126 lyM_0 rfl ?_
  refine T_iconst dX9_readsFirst_51 ic_1 ?_
  refine T_icmp_le (tgt := 59) dX9_readsFirst_52 (by decide) (fun hc => ?_) (fun hc => ?_)
  · have h := it_pos hc h
    refine T_iconst dX9_readsFirst_59 ic_0 ?_
    obtain ⟨rfl, rfl⟩ := sm2 h
    exact T_zret dX9_readsFirst_60 (Or.inl rfl) ⟨rfl, rfl, rfl, rfl⟩
  · have h := it_neg hc h
    refine T_iconst dX9_readsFirst_55 ic_1 ?_
    refine T_goto (tgt := 60) dX9_readsFirst_56 (by decide) ?_
    obtain ⟨rfl, rfl⟩ := sm2 h
    exact T_zret dX9_readsFirst_60 (Or.inr rfl) ⟨rfl, rfl, rfl, rfl⟩
def X9_readsLine_L2 (x1 : Int32) : Int32 × Mem → Option ((Int32 × Mem) ⊕ (Int32 × Mem))
  | (x2, M) =>
    if (gI M 0 18) ≤ x2 then some (.inr (1, M))
    else bd2 (F_X9_figure M x1 (gI M 0 19) (nI 5)) fun r_1 M_2 => if r_1 = 0 then some (.inr (0, M_2))
    else lett (sI M_2 0 19 ((gI M_2 0 19) + 1)) fun M_4 => lett (x2 + 1) fun x_6 => some (.inl (x_6, M_4))
def F_X9_readsLine (M : Mem) (x1 : Int32) : Option (Int32 × Mem) :=
 loop (X9_readsLine_L2 x1) FU (0, M)
set_option maxRecDepth 100000 in
set_option maxHeartbeats 4000000 in
theorem s_X9_readsLine_L2 (x1 : Int32) (x2 : Int32) (M : Mem) {Po : Po_} (x : (Int32 × Mem) ⊕ (Int32 × Mem)) (h : X9_readsLine_L2 x1 (x2, M) = some x) (hI : ∀ (ix2 : Int32) (iM : Mem), x = .inl (ix2, iM) → T RX9 cX9_readsLine 3 (some .boolean) 0 3 0 0 false Po 2 [aR (some 0), aI x1, aI ix2] [] LAYM rfm iM 0 0) (hE0 : ∀ (er : Int32) (eM : Mem), x = .inr (er, eM) → Po (vI er) LAYM rfm eM) : T RX9 cX9_readsLine 3 (some .boolean) 0 3 0 0 false Po 2 [aR (some 0), aI x1, aI x2] [] LAYM rfm M 0 0 := by
  unfold X9_readsLine_L2 at h
  simp only at h
  refine T_iload_n dX9_readsLine_2 rfl ?_
  refine T_aload_n dX9_readsLine_3 rfl ?_
  refine T_getI dX9_readsLine_4 clOK_X9 fl_X9_126 lyM_0 rfl ?_
  refine T_icmp_ge (tgt := 41) dX9_readsLine_7 (by decide) (fun hc => ?_) (fun hc => ?_)
  · have h := it_pos hc h
    refine T_iconst dX9_readsLine_41 ic_1 ?_
    obtain rfl := sm1 h
    exact T_zret dX9_readsLine_42 (Or.inr rfl) (hE0 _ _ rfl)
  · have h := it_neg hc h
    refine T_aload_n dX9_readsLine_10 rfl ?_
    refine T_iload_n dX9_readsLine_11 rfl ?_
    refine T_aload_n dX9_readsLine_12 rfl ?_
    refine T_getI dX9_readsLine_13 clOK_X9 fl_X9_120 lyM_0 rfl ?_
    refine T_iconst dX9_readsLine_16 ic_5 ?_
    obtain ⟨r_1, M_2, hc_3, h⟩ := bd2_some h
    refine T_cvi (as := [vI x1, vI (gI M 0 19), vI (nI 5)]) dX9_readsLine_17 cw_X9_figure ml_X9_123 mi_X9_figure se_X9_figure lyM_0 rfl (by decide) rfl (Nat.le_of_ble_eq_true rfl) (Nat.le_of_ble_eq_true rfl) (m_X9_figure  M x1 (gI M 0 19) (nI 5)  _ _ hc_3) ?_
    refine T_if_ne (tgt := 25) dX9_readsLine_20 (by decide) (fun hc => ?_) (fun hc => ?_)
    · have h := it_neg hc h
      refine T_aload_n dX9_readsLine_25 rfl ?_
      refine T_dup dX9_readsLine_26 rfl ?_
      refine T_getI dX9_readsLine_27 clOK_X9 fl_X9_120 lyM_0 rfl ?_
      refine T_iconst dX9_readsLine_30 ic_1 ?_
      refine T_iadd dX9_readsLine_31 ?_
      obtain ⟨M_4, eM_5, h⟩ := lett_some h
      refine T_putI dX9_readsLine_32 clOK_X9 fl_X9_120 (Or.inl rfl) lyM_0 rfl rfl eM_5 ?_
      obtain ⟨x_6, ex_7, h⟩ := lett_some h
      refine T_iinc (L' := [aR (some 0), aI x1, aI x_6]) dX9_readsLine_35 rfl (ic_inc ic_1 ex_7) (Nat.le_of_ble_eq_true rfl) rfl ?_
      refine T_goto (tgt := 2) dX9_readsLine_38 (by decide) ?_
      obtain rfl := sm1 h
      exact hI _ _ rfl
    · have h := it_pos hc h
      refine T_iconst dX9_readsLine_23 ic_0 ?_
      obtain rfl := sm1 h
      exact T_zret dX9_readsLine_24 (Or.inl rfl) (hE0 _ _ rfl)
set_option maxRecDepth 100000 in
set_option maxHeartbeats 4000000 in
theorem l_X9_readsLine_L2 (x1 : Int32) {Po : Po_} (er : Int32) (eM : Mem) : ∀ (k : Nat) (x2 : Int32) (M : Mem), loop (X9_readsLine_L2 x1) k (x2, M) = some (er, eM) → (Po (vI er) LAYM rfm eM) → T RX9 cX9_readsLine 3 (some .boolean) 0 3 0 0 false Po 2 [aR (some 0), aI x1, aI x2] [] LAYM rfm M 0 0 := by
  intro k
  induction k with
  | zero => intro x2 M h; cases h
  | succ k ih =>
    intro x2 M h hE
    obtain ⟨x, hx, hx1, hx2⟩ := loop_succ h
    exact s_X9_readsLine_L2  x1  x2 M x hx (fun q0 q1 e => ih q0 q1 (hx1 _ e) hE) (fun q0 q1 e => by cases hx2 _ e; exact hE)
set_option maxRecDepth 100000 in
set_option maxHeartbeats 4000000 in
theorem m_X9_readsLine (M : Mem) (x1 : Int32) (r : Int32) (M' : Mem) (h : F_X9_readsLine M x1 = some (r, M')) : Cal yX9_readsLine cX9_readsLine 3 (some .boolean) 0 3 0 0 false [vR (some 0), vI x1] LAYM rfm M (eqp (vI r) LAYM rfm M') := by
  refine Cal.of (by decide +kernel) (Nat.le_of_ble_eq_true rfl) (fun h => by cases h) ?_
  unfold F_X9_readsLine at h
  show T RX9 cX9_readsLine 3 (some .boolean) 0 3 0 0 false (eqp (vI r) LAYM rfm M') 0 [aR (some 0), aI x1, aU] [] LAYM rfm M 0 0
  refine T_iconst dX9_readsLine_0 ic_0 ?_
  refine T_istore_n (i := 2) (L' := [aR (some 0), aI x1, aI 0]) dX9_readsLine_1 rfl (Nat.le_of_ble_eq_true rfl) rfl ?_
  exact l_X9_readsLine_L2  x1  _ _ FU 0 M h ⟨rfl, rfl, rfl, rfl⟩
def F_X9_kindBy (x0 : Int32) : Option (Int32) :=
 if x0 = (nI 112) then some 0
 else if x0 = (nI 114) then some 1
 else if x0 = (nI 115) then some (nI 2)
 else if x0 = (nI 98) then some (nI 3)
 else if x0 = (nI 116) then some (nI 4)
 else if x0 = (nI 100) then some (nI 5)
 else some (-9)
set_option maxRecDepth 100000 in
set_option maxHeartbeats 4000000 in
theorem m_X9_kindBy (M : Mem) (x0 : Int32) (r : Int32) (h : F_X9_kindBy x0 = some r) : Cal yX9_kindBy cX9_kindBy 1 (some .int) 0 1 0 0 false [vI x0] LAYM rfm M (eqp (vI r) LAYM rfm M) := by
  refine Cal.of (by decide +kernel) (Nat.le_of_ble_eq_true rfl) (fun h => by cases h) ?_
  unfold F_X9_kindBy at h
  show T RX9 cX9_kindBy 1 (some .int) 0 1 0 0 false (eqp (vI r) LAYM rfm M) 0 [aI x0] [] LAYM rfm M 0 0
  refine T_iload_n dX9_kindBy_0 rfl ?_
  refine T_bipush dX9_kindBy_1 bp_112 ?_
  refine T_icmp_ne (tgt := 10) dX9_kindBy_3 (by decide) (fun hc => ?_) (fun hc => ?_)
  · have h := it_neg hc h
    refine T_iload_n dX9_kindBy_10 rfl ?_
    refine T_bipush dX9_kindBy_11 bp_114 ?_
    refine T_icmp_ne (tgt := 20) dX9_kindBy_13 (by decide) (fun hc => ?_) (fun hc => ?_)
    · have h := it_neg hc h
      refine T_iload_n dX9_kindBy_20 rfl ?_
      refine T_bipush dX9_kindBy_21 bp_115 ?_
      refine T_icmp_ne (tgt := 30) dX9_kindBy_23 (by decide) (fun hc => ?_) (fun hc => ?_)
      · have h := it_neg hc h
        refine T_iload_n dX9_kindBy_30 rfl ?_
        refine T_bipush dX9_kindBy_31 bp_98 ?_
        refine T_icmp_ne (tgt := 40) dX9_kindBy_33 (by decide) (fun hc => ?_) (fun hc => ?_)
        · have h := it_neg hc h
          refine T_iload_n dX9_kindBy_40 rfl ?_
          refine T_bipush dX9_kindBy_41 bp_116 ?_
          refine T_icmp_ne (tgt := 50) dX9_kindBy_43 (by decide) (fun hc => ?_) (fun hc => ?_)
          · have h := it_neg hc h
            refine T_iload_n dX9_kindBy_50 rfl ?_
            refine T_bipush dX9_kindBy_51 bp_100 ?_
            refine T_icmp_ne (tgt := 60) dX9_kindBy_53 (by decide) (fun hc => ?_) (fun hc => ?_)
            · have h := it_neg hc h
              refine T_bipush dX9_kindBy_60 bp_m9 ?_
              obtain rfl := sm1 h
              exact T_iret dX9_kindBy_62 ⟨rfl, rfl, rfl, rfl⟩
            · have h := it_pos hc h
              refine T_iconst dX9_kindBy_56 ic_5 ?_
              refine T_goto (tgt := 62) dX9_kindBy_57 (by decide) ?_
              obtain rfl := sm1 h
              exact T_iret dX9_kindBy_62 ⟨rfl, rfl, rfl, rfl⟩
          · have h := it_pos hc h
            refine T_iconst dX9_kindBy_46 ic_4 ?_
            refine T_goto (tgt := 62) dX9_kindBy_47 (by decide) ?_
            obtain rfl := sm1 h
            exact T_iret dX9_kindBy_62 ⟨rfl, rfl, rfl, rfl⟩
        · have h := it_pos hc h
          refine T_iconst dX9_kindBy_36 ic_3 ?_
          refine T_goto (tgt := 62) dX9_kindBy_37 (by decide) ?_
          obtain rfl := sm1 h
          exact T_iret dX9_kindBy_62 ⟨rfl, rfl, rfl, rfl⟩
      · have h := it_pos hc h
        refine T_iconst dX9_kindBy_26 ic_2 ?_
        refine T_goto (tgt := 62) dX9_kindBy_27 (by decide) ?_
        obtain rfl := sm1 h
        exact T_iret dX9_kindBy_62 ⟨rfl, rfl, rfl, rfl⟩
    · have h := it_pos hc h
      refine T_iconst dX9_kindBy_16 ic_1 ?_
      refine T_goto (tgt := 62) dX9_kindBy_17 (by decide) ?_
      obtain rfl := sm1 h
      exact T_iret dX9_kindBy_62 ⟨rfl, rfl, rfl, rfl⟩
  · have h := it_pos hc h
    refine T_iconst dX9_kindBy_6 ic_0 ?_
    refine T_goto (tgt := 62) dX9_kindBy_7 (by decide) ?_
    obtain rfl := sm1 h
    exact T_iret dX9_kindBy_62 ⟨rfl, rfl, rfl, rfl⟩
def X9_skip_L0 (x1 : Int32) : Mem → Option ((Mem) ⊕ (Mem))
  | M =>
    bd1 (F_X9_here M x1) fun r_1 => if r_1 = (nI 32) then lett (sI M 0 17 ((gI M 0 17) + 1)) fun M_3 => some (.inl M_3)
    else some (.inr M)
def F_X9_skip (M : Mem) (x1 : Int32) : Option (Mem) :=
 loop (X9_skip_L0 x1) FU M
set_option maxRecDepth 100000 in
set_option maxHeartbeats 4000000 in
theorem s_X9_skip_L0 (x1 : Int32) (M : Mem) {Po : Po_} (x : (Mem) ⊕ (Mem)) (h : X9_skip_L0 x1 M = some x) (hI : ∀ (iM : Mem), x = .inl iM → T RX9 cX9_skip 2 none 2 2 0 0 false Po 0 [aR (some 0), aI x1] [] LAYM rfm iM 0 0) (hE0 : ∀ (eM : Mem), x = .inr eM → Po (vI 0) LAYM rfm eM) : T RX9 cX9_skip 2 none 2 2 0 0 false Po 0 [aR (some 0), aI x1] [] LAYM rfm M 0 0 := by
  unfold X9_skip_L0 at h
  simp only at h
  refine T_aload_n dX9_skip_0 rfl ?_
  refine T_iload_n dX9_skip_1 rfl ?_
  obtain ⟨r_1, hc_2, h⟩ := bd1_some h
  refine T_cvi (as := [vI x1]) dX9_skip_2 cw_X9_here ml_X9_117 mi_X9_here se_X9_here lyM_0 rfl (by decide) rfl (Nat.le_of_ble_eq_true rfl) (Nat.le_of_ble_eq_true rfl) (m_X9_here  M x1  _ hc_2) ?_
  refine T_bipush dX9_skip_5 bp_32 ?_
  refine T_icmp_ne (tgt := 23) dX9_skip_7 (by decide) (fun hc => ?_) (fun hc => ?_)
  · have h := it_neg hc h
    obtain rfl := sm1 h
    exact T_vret dX9_skip_23 (hE0 _ rfl)
  · have h := it_pos hc h
    refine T_aload_n dX9_skip_10 rfl ?_
    refine T_dup dX9_skip_11 rfl ?_
    refine T_getI dX9_skip_12 clOK_X9 fl_X9_114 lyM_0 rfl ?_
    refine T_iconst dX9_skip_15 ic_1 ?_
    refine T_iadd dX9_skip_16 ?_
    obtain ⟨M_3, eM_4, h⟩ := lett_some h
    refine T_putI dX9_skip_17 clOK_X9 fl_X9_114 (Or.inl rfl) lyM_0 rfl rfl eM_4 ?_
    refine T_goto (tgt := 0) dX9_skip_20 (by decide) ?_
    obtain rfl := sm1 h
    exact hI _ rfl
set_option maxRecDepth 100000 in
set_option maxHeartbeats 4000000 in
theorem l_X9_skip_L0 (x1 : Int32) {Po : Po_} (eM : Mem) : ∀ (k : Nat) (M : Mem), loop (X9_skip_L0 x1) k M = some eM → (Po (vI 0) LAYM rfm eM) → T RX9 cX9_skip 2 none 2 2 0 0 false Po 0 [aR (some 0), aI x1] [] LAYM rfm M 0 0 := by
  intro k
  induction k with
  | zero => intro M h; cases h
  | succ k ih =>
    intro M h hE
    obtain ⟨x, hx, hx1, hx2⟩ := loop_succ h
    exact s_X9_skip_L0  x1  M x hx (fun q0 e => ih q0 (hx1 _ e) hE) (fun q0 e => by cases hx2 _ e; exact hE)
set_option maxRecDepth 100000 in
set_option maxHeartbeats 4000000 in
theorem m_X9_skip (M : Mem) (x1 : Int32) (M' : Mem) (h : F_X9_skip M x1 = some M') : Cal yX9_skip cX9_skip 2 none 2 2 0 0 false [vR (some 0), vI x1] LAYM rfm M (eqp (vI 0) LAYM rfm M') := by
  refine Cal.of (by decide +kernel) (Nat.le_of_ble_eq_true rfl) (fun h => by cases h) ?_
  unfold F_X9_skip at h
  show T RX9 cX9_skip 2 none 2 2 0 0 false (eqp (vI 0) LAYM rfm M') 0 [aR (some 0), aI x1] [] LAYM rfm M 0 0
  exact l_X9_skip_L0  x1  _ FU M h ⟨rfl, rfl, rfl, rfl⟩
def X9_readsGround_L25 (x1 : Int32) : Mem → Option ((Mem) ⊕ ((Mem) ⊕ (Int32 × Mem)))
  | M =>
    if ((nI 4) * (gI M 0 18)) ≤ (gI M 0 19) then some (.inr (.inl M))
    else bd2 (F_X9_sign M x1 (nI 47)) fun r_10 M_11 => if r_10 = 0 then some (.inr (.inl M_11))
    else bd2 (F_X9_readsLine M_11 x1) fun r_13 M_14 => if r_13 = 0 then some (.inr (.inr (0, M_14)))
    else some (.inl M_14)
def X9_readsGround_L72 (x1 : Int32) : Int32 × Mem → Option ((Int32 × Mem) ⊕ ((Mem) ⊕ (Int32 × Mem)))
  | (x2, M) =>
    if (gI M 0 18) ≤ x2 then some (.inr (.inl M))
    else bd2 (F_X9_figure M x1 ((nI 16) + x2) (nI 3)) fun r_21 M_22 => if r_21 = 0 then some (.inr (.inr (0, M_22)))
    else lett (x2 + 1) fun x_24 => some (.inl (x_24, M_22))
def X9_readsGround_L101 (x1 : Int32) : Mem → Option ((Mem) ⊕ (Mem))
  | M =>
    if (nI 6) ≤ (gI M 0 20) then some (.inr M)
    else bd1 (F_X9_here M x1) fun r_28 => bd1 (F_X9_kindBy r_28) fun r_30 => if r_30 = (-9) then some (.inr M)
    else bd1 (F_X9_here M x1) fun r_32 => bd1 (F_X9_kindBy r_32) fun r_34 => chk (inb ((nI 20) + (gI M 0 20)) 26 = true) (lett (sI M 10 ((nI 20) + (gI M 0 20)).toNatClampNeg r_34) fun M_36 => lett (sI M_36 0 20 ((gI M_36 0 20) + 1)) fun M_39 => lett (sI M_39 0 17 ((gI M_39 0 17) + 1)) fun M_41 => some (.inl M_41))
def F_X9_readsGround (M : Mem) (x1 : Int32) : Option (Int32 × Mem) :=
 lett (sI M 0 17 0) fun M_1 => lett (sI M_1 0 20 0) fun M_3 => bd1 (F_X9_skip M_3 x1) fun M_5 => bd2 (F_X9_readsFirst M_5 x1) fun r_7 M_8 => if r_7 = 0 then some (0, M_8)
 else bd1 (loop (X9_readsGround_L25 x1) FU M_8) (Sum.elim (un1 fun M_17 => bd2 (F_X9_sign M_17 x1 (nI 61)) fun r_18 M_19 => if r_18 = 0 then some (0, M_19)
 else bd1 (loop (X9_readsGround_L72 x1) FU (0, M_19)) (Sum.elim (un1 fun M_27 => bd1 (loop (X9_readsGround_L101 x1) FU M_27) fun M_43 => bd1 (F_X9_skip M_43 x1) fun M_44 => chk (inb x1 4 = true) (if (gI M_44 0 17) = (gI M_44 5 x1.toNatClampNeg) then some (1, M_44)
 else some (0, M_44))) (un2 fun r_47 r_48 => some (r_47, r_48)))) (un2 fun r_49 r_50 => some (r_49, r_50)))
set_option maxRecDepth 100000 in
set_option maxHeartbeats 4000000 in
theorem s_X9_readsGround_L25 (x1 : Int32) (M : Mem) {Po : Po_} (x : (Mem) ⊕ ((Mem) ⊕ (Int32 × Mem))) (h : X9_readsGround_L25 x1 M = some x) (hI : ∀ (iM : Mem), x = .inl iM → T RX9 cX9_readsGround 3 (some .boolean) 0 4 0 0 false Po 25 [aR (some 0), aI x1, aU] [] LAYM rfm iM 0 0) (hE0 : ∀ (eM : Mem), x = .inr (.inl eM) → T RX9 cX9_readsGround 3 (some .boolean) 0 4 0 0 false Po 58 [aR (some 0), aI x1, aU] [] LAYM rfm eM 0 0) (hE1 : ∀ (er : Int32) (eM : Mem), x = .inr (.inr (er, eM)) → Po (vI er) LAYM rfm eM) : T RX9 cX9_readsGround 3 (some .boolean) 0 4 0 0 false Po 25 [aR (some 0), aI x1, aU] [] LAYM rfm M 0 0 := by
  unfold X9_readsGround_L25 at h
  simp only at h
  refine T_aload_n dX9_readsGround_25 rfl ?_
  refine T_getI dX9_readsGround_26 clOK_X9 fl_X9_120 lyM_0 rfl ?_
  refine T_iconst dX9_readsGround_29 ic_4 ?_
  refine T_aload_n dX9_readsGround_30 rfl ?_
  refine T_getI dX9_readsGround_31 clOK_X9 fl_X9_126 lyM_0 rfl ?_
  refine T_imul dX9_readsGround_34 ?_
  refine T_icmp_ge (tgt := 58) dX9_readsGround_35 (by decide) (fun hc => ?_) (fun hc => ?_)
  · have h := it_pos hc h
    obtain rfl := sm1 h
    exact hE0 _ rfl
  · have h := it_neg hc h
    refine T_aload_n dX9_readsGround_38 rfl ?_
    refine T_iload_n dX9_readsGround_39 rfl ?_
    refine T_bipush dX9_readsGround_40 bp_47 ?_
    obtain ⟨r_10, M_11, hc_12, h⟩ := bd2_some h
    refine T_cvi (as := [vI x1, vI (nI 47)]) dX9_readsGround_42 cw_X9_sign ml_X9_139 mi_X9_sign se_X9_sign lyM_0 rfl (by decide) rfl (Nat.le_of_ble_eq_true rfl) (Nat.le_of_ble_eq_true rfl) (m_X9_sign  M x1 (nI 47)  _ _ hc_12) ?_
    refine T_if_eq (tgt := 58) dX9_readsGround_45 (by decide) (fun hc => ?_) (fun hc => ?_)
    · have h := it_pos hc h
      obtain rfl := sm1 h
      exact hE0 _ rfl
    · have h := it_neg hc h
      refine T_aload_n dX9_readsGround_48 rfl ?_
      refine T_iload_n dX9_readsGround_49 rfl ?_
      obtain ⟨r_13, M_14, hc_15, h⟩ := bd2_some h
      refine T_cvi (as := [vI x1]) dX9_readsGround_50 cw_X9_readsLine ml_X9_143 mi_X9_readsLine se_X9_readsLine lyM_0 rfl (by decide) rfl (Nat.le_of_ble_eq_true rfl) (Nat.le_of_ble_eq_true rfl) (m_X9_readsLine  M_11 x1  _ _ hc_15) ?_
      refine T_if_ne (tgt := 25) dX9_readsGround_53 (by decide) (fun hc => ?_) (fun hc => ?_)
      · have h := it_neg hc h
        obtain rfl := sm1 h
        exact hI _ rfl
      · have h := it_pos hc h
        refine T_iconst dX9_readsGround_56 ic_0 ?_
        obtain rfl := sm1 h
        exact T_zret dX9_readsGround_57 (Or.inl rfl) (hE1 _ _ rfl)
set_option maxRecDepth 100000 in
set_option maxHeartbeats 4000000 in
theorem l_X9_readsGround_L25 (x1 : Int32) {Po : Po_} (e : ((Mem) ⊕ (Int32 × Mem))) : ∀ (k : Nat) (M : Mem), loop (X9_readsGround_L25 x1) k M = some e → (∀ (eM : Mem), e = (.inl eM) → T RX9 cX9_readsGround 3 (some .boolean) 0 4 0 0 false Po 58 [aR (some 0), aI x1, aU] [] LAYM rfm eM 0 0) → (∀ (er : Int32) (eM : Mem), e = (.inr (er, eM)) → Po (vI er) LAYM rfm eM) → T RX9 cX9_readsGround 3 (some .boolean) 0 4 0 0 false Po 25 [aR (some 0), aI x1, aU] [] LAYM rfm M 0 0 := by
  intro k
  induction k with
  | zero => intro M h; cases h
  | succ k ih =>
    intro M h hE0 hE1
    obtain ⟨x, hx, hx1, hx2⟩ := loop_succ h
    exact s_X9_readsGround_L25  x1  M x hx (fun q0 ee => ih q0 (hx1 _ ee) hE0 hE1) (fun q0 ee => hE0 q0 (hx2 _ ee).symm) (fun q0 q1 ee => hE1 q0 q1 (hx2 _ ee).symm)
set_option maxRecDepth 100000 in
set_option maxHeartbeats 4000000 in
theorem s_X9_readsGround_L72 (x1 : Int32) (x2 : Int32) (M : Mem) {Po : Po_} (x : (Int32 × Mem) ⊕ ((Mem) ⊕ (Int32 × Mem))) (h : X9_readsGround_L72 x1 (x2, M) = some x) (hI : ∀ (ix2 : Int32) (iM : Mem), x = .inl (ix2, iM) → T RX9 cX9_readsGround 3 (some .boolean) 0 4 0 0 false Po 72 [aR (some 0), aI x1, aI ix2] [] LAYM rfm iM 0 0) (hE0 : ∀ (eM : Mem), x = .inr (.inl eM) → T RX9 cX9_readsGround 3 (some .boolean) 0 4 0 0 false Po 101 [aR (some 0), aI x1, aU] [] LAYM rfm eM 0 0) (hE1 : ∀ (er : Int32) (eM : Mem), x = .inr (.inr (er, eM)) → Po (vI er) LAYM rfm eM) : T RX9 cX9_readsGround 3 (some .boolean) 0 4 0 0 false Po 72 [aR (some 0), aI x1, aI x2] [] LAYM rfm M 0 0 := by
  unfold X9_readsGround_L72 at h
  simp only at h
  refine T_iload_n dX9_readsGround_72 rfl ?_
  refine T_aload_n dX9_readsGround_73 rfl ?_
  refine T_getI dX9_readsGround_74 clOK_X9 fl_X9_126 lyM_0 rfl ?_
  refine T_icmp_ge (tgt := 101) dX9_readsGround_77 (by decide) (fun hc => ?_) (fun hc => ?_)
  · have h := it_pos hc h
    obtain rfl := sm1 h
    refine T_mask [true, true, false] rfl ?_
    exact hE0 _ rfl
  · have h := it_neg hc h
    refine T_aload_n dX9_readsGround_80 rfl ?_
    refine T_iload_n dX9_readsGround_81 rfl ?_
    refine T_bipush dX9_readsGround_82 bp_16 ?_
    refine T_iload_n dX9_readsGround_84 rfl ?_
    refine T_iadd dX9_readsGround_85 ?_
    refine T_iconst dX9_readsGround_86 ic_3 ?_
    obtain ⟨r_21, M_22, hc_23, h⟩ := bd2_some h
    refine T_cvi (as := [vI x1, vI ((nI 16) + x2), vI (nI 3)]) dX9_readsGround_87 cw_X9_figure ml_X9_123 mi_X9_figure se_X9_figure lyM_0 rfl (by decide) rfl (Nat.le_of_ble_eq_true rfl) (Nat.le_of_ble_eq_true rfl) (m_X9_figure  M x1 ((nI 16) + x2) (nI 3)  _ _ hc_23) ?_
    refine T_if_ne (tgt := 95) dX9_readsGround_90 (by decide) (fun hc => ?_) (fun hc => ?_)
    · have h := it_neg hc h
      obtain ⟨x_24, ex_25, h⟩ := lett_some h
      refine T_iinc (L' := [aR (some 0), aI x1, aI x_24]) dX9_readsGround_95 rfl (ic_inc ic_1 ex_25) (Nat.le_of_ble_eq_true rfl) rfl ?_
      refine T_goto (tgt := 72) dX9_readsGround_98 (by decide) ?_
      obtain rfl := sm1 h
      exact hI _ _ rfl
    · have h := it_pos hc h
      refine T_iconst dX9_readsGround_93 ic_0 ?_
      obtain rfl := sm1 h
      exact T_zret dX9_readsGround_94 (Or.inl rfl) (hE1 _ _ rfl)
set_option maxRecDepth 100000 in
set_option maxHeartbeats 4000000 in
theorem l_X9_readsGround_L72 (x1 : Int32) {Po : Po_} (e : ((Mem) ⊕ (Int32 × Mem))) : ∀ (k : Nat) (x2 : Int32) (M : Mem), loop (X9_readsGround_L72 x1) k (x2, M) = some e → (∀ (eM : Mem), e = (.inl eM) → T RX9 cX9_readsGround 3 (some .boolean) 0 4 0 0 false Po 101 [aR (some 0), aI x1, aU] [] LAYM rfm eM 0 0) → (∀ (er : Int32) (eM : Mem), e = (.inr (er, eM)) → Po (vI er) LAYM rfm eM) → T RX9 cX9_readsGround 3 (some .boolean) 0 4 0 0 false Po 72 [aR (some 0), aI x1, aI x2] [] LAYM rfm M 0 0 := by
  intro k
  induction k with
  | zero => intro x2 M h; cases h
  | succ k ih =>
    intro x2 M h hE0 hE1
    obtain ⟨x, hx, hx1, hx2⟩ := loop_succ h
    exact s_X9_readsGround_L72  x1  x2 M x hx (fun q0 q1 ee => ih q0 q1 (hx1 _ ee) hE0 hE1) (fun q0 ee => hE0 q0 (hx2 _ ee).symm) (fun q0 q1 ee => hE1 q0 q1 (hx2 _ ee).symm)
set_option maxRecDepth 100000 in
set_option maxHeartbeats 4000000 in
theorem s_X9_readsGround_L101 (x1 : Int32) (M : Mem) {Po : Po_} (x : (Mem) ⊕ (Mem)) (h : X9_readsGround_L101 x1 M = some x) (hI : ∀ (iM : Mem), x = .inl iM → T RX9 cX9_readsGround 3 (some .boolean) 0 4 0 0 false Po 101 [aR (some 0), aI x1, aU] [] LAYM rfm iM 0 0) (hE0 : ∀ (eM : Mem), x = .inr eM → T RX9 cX9_readsGround 3 (some .boolean) 0 4 0 0 false Po 166 [aR (some 0), aI x1, aU] [] LAYM rfm eM 0 0) : T RX9 cX9_readsGround 3 (some .boolean) 0 4 0 0 false Po 101 [aR (some 0), aI x1, aU] [] LAYM rfm M 0 0 := by
  unfold X9_readsGround_L101 at h
  simp only at h
  refine T_aload_n dX9_readsGround_101 rfl ?_
  refine T_getI dX9_readsGround_102 clOK_X9 fl_X9_129 lyM_0 rfl ?_
  refine T_bipush dX9_readsGround_105 bp_6 ?_
  refine T_icmp_ge (tgt := 166) dX9_readsGround_107 (by decide) (fun hc => ?_) (fun hc => ?_)
  · have h := it_pos hc h
    obtain rfl := sm1 h
    exact hE0 _ rfl
  · have h := it_neg hc h
    refine T_aload_n dX9_readsGround_110 rfl ?_
    refine T_iload_n dX9_readsGround_111 rfl ?_
    obtain ⟨r_28, hc_29, h⟩ := bd1_some h
    refine T_cvi (as := [vI x1]) dX9_readsGround_112 cw_X9_here ml_X9_117 mi_X9_here se_X9_here lyM_0 rfl (by decide) rfl (Nat.le_of_ble_eq_true rfl) (Nat.le_of_ble_eq_true rfl) (m_X9_here  M x1  _ hc_29) ?_
    obtain ⟨r_30, hc_31, h⟩ := bd1_some h
    refine T_csi (as := [vI r_28]) dX9_readsGround_115 cw_X9_kindBy ml_X9_146 mt_X9_kindBy rfl (Nat.le_of_ble_eq_true rfl) (Nat.le_of_ble_eq_true rfl) (m_X9_kindBy M r_28  _ hc_31) ?_
    refine T_bipush dX9_readsGround_118 bp_m9 ?_
    refine T_icmp_eq (tgt := 166) dX9_readsGround_120 (by decide) (fun hc => ?_) (fun hc => ?_)
    · have h := it_pos hc h
      obtain rfl := sm1 h
      exact hE0 _ rfl
    · have h := it_neg hc h
      refine T_aload_n dX9_readsGround_123 rfl ?_
      refine T_getR dX9_readsGround_124 clOK_X9 fl_X9_41 lyM_0 rfl rfl ?_
      refine T_bipush dX9_readsGround_127 bp_20 ?_
      refine T_aload_n dX9_readsGround_129 rfl ?_
      refine T_getI dX9_readsGround_130 clOK_X9 fl_X9_129 lyM_0 rfl ?_
      refine T_iadd dX9_readsGround_133 ?_
      refine T_aload_n dX9_readsGround_134 rfl ?_
      refine T_iload_n dX9_readsGround_135 rfl ?_
      obtain ⟨r_32, hc_33, h⟩ := bd1_some h
      refine T_cvi (as := [vI x1]) dX9_readsGround_136 cw_X9_here ml_X9_117 mi_X9_here se_X9_here lyM_0 rfl (by decide) rfl (Nat.le_of_ble_eq_true rfl) (Nat.le_of_ble_eq_true rfl) (m_X9_here  M x1  _ hc_33) ?_
      obtain ⟨r_34, hc_35, h⟩ := bd1_some h
      refine T_csi (as := [vI r_32]) dX9_readsGround_139 cw_X9_kindBy ml_X9_146 mt_X9_kindBy rfl (Nat.le_of_ble_eq_true rfl) (Nat.le_of_ble_eq_true rfl) (m_X9_kindBy M r_32  _ hc_35) ?_
      obtain ⟨hi_38, h⟩ := chk_some h
      obtain ⟨M_36, eM_37, h⟩ := lett_some h
      refine T_iast dX9_readsGround_142 lyM_10 (inb_in hi_38) eM_37 ?_
      refine T_aload_n dX9_readsGround_143 rfl ?_
      refine T_dup dX9_readsGround_144 rfl ?_
      refine T_getI dX9_readsGround_145 clOK_X9 fl_X9_129 lyM_0 rfl ?_
      refine T_iconst dX9_readsGround_148 ic_1 ?_
      refine T_iadd dX9_readsGround_149 ?_
      obtain ⟨M_39, eM_40, h⟩ := lett_some h
      refine T_putI dX9_readsGround_150 clOK_X9 fl_X9_129 (Or.inl rfl) lyM_0 rfl rfl eM_40 ?_
      refine T_aload_n dX9_readsGround_153 rfl ?_
      refine T_dup dX9_readsGround_154 rfl ?_
      refine T_getI dX9_readsGround_155 clOK_X9 fl_X9_114 lyM_0 rfl ?_
      refine T_iconst dX9_readsGround_158 ic_1 ?_
      refine T_iadd dX9_readsGround_159 ?_
      obtain ⟨M_41, eM_42, h⟩ := lett_some h
      refine T_putI dX9_readsGround_160 clOK_X9 fl_X9_114 (Or.inl rfl) lyM_0 rfl rfl eM_42 ?_
      refine T_goto (tgt := 101) dX9_readsGround_163 (by decide) ?_
      obtain rfl := sm1 h
      exact hI _ rfl
set_option maxRecDepth 100000 in
set_option maxHeartbeats 4000000 in
theorem l_X9_readsGround_L101 (x1 : Int32) {Po : Po_} (eM : Mem) : ∀ (k : Nat) (M : Mem), loop (X9_readsGround_L101 x1) k M = some eM → (T RX9 cX9_readsGround 3 (some .boolean) 0 4 0 0 false Po 166 [aR (some 0), aI x1, aU] [] LAYM rfm eM 0 0) → T RX9 cX9_readsGround 3 (some .boolean) 0 4 0 0 false Po 101 [aR (some 0), aI x1, aU] [] LAYM rfm M 0 0 := by
  intro k
  induction k with
  | zero => intro M h; cases h
  | succ k ih =>
    intro M h hE
    obtain ⟨x, hx, hx1, hx2⟩ := loop_succ h
    exact s_X9_readsGround_L101  x1  M x hx (fun q0 e => ih q0 (hx1 _ e) hE) (fun q0 e => by cases hx2 _ e; exact hE)
set_option maxRecDepth 100000 in
set_option maxHeartbeats 4000000 in
theorem m_X9_readsGround (M : Mem) (x1 : Int32) (r : Int32) (M' : Mem) (h : F_X9_readsGround M x1 = some (r, M')) : Cal yX9_readsGround cX9_readsGround 3 (some .boolean) 0 4 0 0 false [vR (some 0), vI x1] LAYM rfm M (eqp (vI r) LAYM rfm M') := by
  refine Cal.of (by decide +kernel) (Nat.le_of_ble_eq_true rfl) (fun h => by cases h) ?_
  unfold F_X9_readsGround at h
  show T RX9 cX9_readsGround 3 (some .boolean) 0 4 0 0 false (eqp (vI r) LAYM rfm M') 0 [aR (some 0), aI x1, aU] [] LAYM rfm M 0 0
  refine T_aload_n dX9_readsGround_0 rfl ?_
  refine T_iconst dX9_readsGround_1 ic_0 ?_
  obtain ⟨M_1, eM_2, h⟩ := lett_some h
  refine T_putI dX9_readsGround_2 clOK_X9 fl_X9_114 (Or.inl rfl) lyM_0 rfl rfl eM_2 ?_
  refine T_aload_n dX9_readsGround_5 rfl ?_
  refine T_iconst dX9_readsGround_6 ic_0 ?_
  obtain ⟨M_3, eM_4, h⟩ := lett_some h
  refine T_putI dX9_readsGround_7 clOK_X9 fl_X9_129 (Or.inl rfl) lyM_0 rfl rfl eM_4 ?_
  refine T_aload_n dX9_readsGround_10 rfl ?_
  refine T_iload_n dX9_readsGround_11 rfl ?_
  obtain ⟨M_5, hc_6, h⟩ := bd1_some h
  refine T_cvv (as := [vI x1]) dX9_readsGround_12 cw_X9_skip ml_X9_132 mi_X9_skip se_X9_skip lyM_0 rfl (by decide) rfl (Nat.le_of_ble_eq_true rfl) (Nat.le_of_ble_eq_true rfl) (m_X9_skip  M_3 x1  _ hc_6) ?_
  refine T_aload_n dX9_readsGround_15 rfl ?_
  refine T_iload_n dX9_readsGround_16 rfl ?_
  obtain ⟨r_7, M_8, hc_9, h⟩ := bd2_some h
  refine T_cvi (as := [vI x1]) dX9_readsGround_17 cw_X9_readsFirst ml_X9_136 mi_X9_readsFirst se_X9_readsFirst lyM_0 rfl (by decide) rfl (Nat.le_of_ble_eq_true rfl) (Nat.le_of_ble_eq_true rfl) (m_X9_readsFirst  M_5 x1  _ _ hc_9) ?_
  refine T_if_ne (tgt := 25) dX9_readsGround_20 (by decide) (fun hc => ?_) (fun hc => ?_)
  · have h := it_neg hc h
    obtain ⟨e_16, hl, h⟩ := bd1_some h
    refine l_X9_readsGround_L25  x1  e_16 FU M_8 hl ?_ ?_
    · intro M_17 ee
      subst ee
      have h := elim_l h
      have h := un1_ap h
      refine T_aload_n dX9_readsGround_58 rfl ?_
      refine T_iload_n dX9_readsGround_59 rfl ?_
      refine T_bipush dX9_readsGround_60 bp_61 ?_
      obtain ⟨r_18, M_19, hc_20, h⟩ := bd2_some h
      refine T_cvi (as := [vI x1, vI (nI 61)]) dX9_readsGround_62 cw_X9_sign ml_X9_139 mi_X9_sign se_X9_sign lyM_0 rfl (by decide) rfl (Nat.le_of_ble_eq_true rfl) (Nat.le_of_ble_eq_true rfl) (m_X9_sign  M_17 x1 (nI 61)  _ _ hc_20) ?_
      refine T_if_ne (tgt := 70) dX9_readsGround_65 (by decide) (fun hc => ?_) (fun hc => ?_)
      · have h := it_neg hc h
        refine T_iconst dX9_readsGround_70 ic_0 ?_
        refine T_istore_n (i := 2) (L' := [aR (some 0), aI x1, aI 0]) dX9_readsGround_71 rfl (Nat.le_of_ble_eq_true rfl) rfl ?_
        obtain ⟨e_26, hl, h⟩ := bd1_some h
        refine l_X9_readsGround_L72  x1  e_26 FU 0 M_19 hl ?_ ?_
        · intro M_27 ee
          subst ee
          have h := elim_l h
          have h := un1_ap h
          obtain ⟨M_43, hl, h⟩ := bd1_some h
          refine l_X9_readsGround_L101  x1  _ FU M_27 hl ?_
          refine T_aload_n dX9_readsGround_166 rfl ?_
          refine T_iload_n dX9_readsGround_167 rfl ?_
          obtain ⟨M_44, hc_45, h⟩ := bd1_some h
          refine T_cvv (as := [vI x1]) dX9_readsGround_168 cw_X9_skip ml_X9_132 mi_X9_skip se_X9_skip lyM_0 rfl (by decide) rfl (Nat.le_of_ble_eq_true rfl) (Nat.le_of_ble_eq_true rfl) (m_X9_skip  M_43 x1  _ hc_45) ?_
          refine T_aload_n dX9_readsGround_171 rfl ?_
          refine T_getI dX9_readsGround_172 clOK_X9 fl_X9_114 lyM_0 rfl ?_
          refine T_aload_n dX9_readsGround_175 rfl ?_
          refine T_getR dX9_readsGround_176 clOK_X9 fl_X9_26 lyM_0 rfl rfl ?_
          refine T_iload_n dX9_readsGround_179 rfl ?_
          obtain ⟨hi_46, h⟩ := chk_some h
          refine T_iald dX9_readsGround_180 lyM_5 (inb_in hi_46) ?_
          refine T_icmp_ne (tgt := 188) dX9_readsGround_181 (by decide) (fun hc => ?_) (fun hc => ?_)
          · have h := it_neg hc h
            refine T_iconst dX9_readsGround_188 ic_0 ?_
            obtain ⟨rfl, rfl⟩ := sm2 h
            exact T_zret dX9_readsGround_189 (Or.inl rfl) ⟨rfl, rfl, rfl, rfl⟩
          · have h := it_pos hc h
            refine T_iconst dX9_readsGround_184 ic_1 ?_
            refine T_goto (tgt := 189) dX9_readsGround_185 (by decide) ?_
            obtain ⟨rfl, rfl⟩ := sm2 h
            exact T_zret dX9_readsGround_189 (Or.inr rfl) ⟨rfl, rfl, rfl, rfl⟩
        · intro r_47 r_48 ee
          subst ee
          have h := elim_r h
          have h := un2_ap h
          obtain ⟨rfl, rfl⟩ := sm2 h
          exact ⟨rfl, rfl, rfl, rfl⟩
      · have h := it_pos hc h
        refine T_iconst dX9_readsGround_68 ic_0 ?_
        obtain ⟨rfl, rfl⟩ := sm2 h
        exact T_zret dX9_readsGround_69 (Or.inl rfl) ⟨rfl, rfl, rfl, rfl⟩
    · intro r_49 r_50 ee
      subst ee
      have h := elim_r h
      have h := un2_ap h
      obtain ⟨rfl, rfl⟩ := sm2 h
      exact ⟨rfl, rfl, rfl, rfl⟩
  · have h := it_pos hc h
    refine T_iconst dX9_readsGround_23 ic_0 ?_
    obtain ⟨rfl, rfl⟩ := sm2 h
    exact T_zret dX9_readsGround_24 (Or.inl rfl) ⟨rfl, rfl, rfl, rfl⟩
def F_X9_goesOn (M : Mem) (x1 : Int32) : Option (Int32 × Mem) :=
 bd2 (F_X9_readsGround M x1) fun r_1 M_2 => if r_1 = 0 then some (gI M_2 0 17, M_2)
 else some ((-9), M_2)
set_option maxRecDepth 100000 in
set_option maxHeartbeats 4000000 in
theorem m_X9_goesOn (M : Mem) (x1 : Int32) (r : Int32) (M' : Mem) (h : F_X9_goesOn M x1 = some (r, M')) : Cal yX9_goesOn cX9_goesOn 2 (some .int) 0 5 0 0 false [vR (some 0), vI x1] LAYM rfm M (eqp (vI r) LAYM rfm M') := by
  refine Cal.of (by decide +kernel) (Nat.le_of_ble_eq_true rfl) (fun h => by cases h) ?_
  unfold F_X9_goesOn at h
  show T RX9 cX9_goesOn 2 (some .int) 0 5 0 0 false (eqp (vI r) LAYM rfm M') 0 [aR (some 0), aI x1] [] LAYM rfm M 0 0
  refine T_aload_n dX9_goesOn_0 rfl ?_
  refine T_iload_n dX9_goesOn_1 rfl ?_
  obtain ⟨r_1, M_2, hc_3, h⟩ := bd2_some h
  refine T_cvi (as := [vI x1]) dX9_goesOn_2 cw_X9_readsGround ml_X9_149 mi_X9_readsGround se_X9_readsGround lyM_0 rfl (by decide) rfl (Nat.le_of_ble_eq_true rfl) (Nat.le_of_ble_eq_true rfl) (m_X9_readsGround  M x1  _ _ hc_3) ?_
  refine T_if_eq (tgt := 13) dX9_goesOn_5 (by decide) (fun hc => ?_) (fun hc => ?_)
  · have h := it_pos hc h
    refine T_aload_n dX9_goesOn_13 rfl ?_
    refine T_getI dX9_goesOn_14 clOK_X9 fl_X9_114 lyM_0 rfl ?_
    obtain ⟨rfl, rfl⟩ := sm2 h
    exact T_iret dX9_goesOn_17 ⟨rfl, rfl, rfl, rfl⟩
  · have h := it_neg hc h
    refine T_bipush dX9_goesOn_8 bp_m9 ?_
    refine T_goto (tgt := 17) dX9_goesOn_10 (by decide) ?_
    obtain ⟨rfl, rfl⟩ := sm2 h
    exact T_iret dX9_goesOn_17 ⟨rfl, rfl, rfl, rfl⟩
def F_X9_fault (M : Mem) (x1 : Int32) : Option (Int32 × Mem) :=
 bd2 (F_X9_askedText M x1) fun r_1 M_2 => if 0 ≤ r_1 then bd2 (F_X9_goesOn M_2 x1) fun r_4 M_5 => some (r_4, M_5)
 else some (r_1, M_2)
set_option maxRecDepth 100000 in
set_option maxHeartbeats 4000000 in
theorem m_X9_fault (M : Mem) (x1 : Int32) (r : Int32) (M' : Mem) (h : F_X9_fault M x1 = some (r, M')) : Cal yX9_fault cX9_fault 3 (some .int) 0 6 0 0 false [vR (some 0), vI x1] LAYM rfm M (eqp (vI r) LAYM rfm M') := by
  refine Cal.of (by decide +kernel) (Nat.le_of_ble_eq_true rfl) (fun h => by cases h) ?_
  unfold F_X9_fault at h
  show T RX9 cX9_fault 3 (some .int) 0 6 0 0 false (eqp (vI r) LAYM rfm M') 0 [aR (some 0), aI x1, aU] [] LAYM rfm M 0 0
  refine T_aload_n dX9_fault_0 rfl ?_
  refine T_iload_n dX9_fault_1 rfl ?_
  obtain ⟨r_1, M_2, hc_3, h⟩ := bd2_some h
  refine T_cvi (as := [vI x1]) dX9_fault_2 cw_X9_askedText ml_X9_111 mi_X9_askedText se_X9_askedText lyM_0 rfl (by decide) rfl (Nat.le_of_ble_eq_true rfl) (Nat.le_of_ble_eq_true rfl) (m_X9_askedText  M x1  _ _ hc_3) ?_
  refine T_istore_n (i := 2) (L' := [aR (some 0), aI x1, aI r_1]) dX9_fault_5 rfl (Nat.le_of_ble_eq_true rfl) rfl ?_
  refine T_iload_n dX9_fault_6 rfl ?_
  refine T_if_ge (tgt := 14) dX9_fault_7 (by decide) (fun hc => ?_) (fun hc => ?_)
  · have h := it_pos hc h
    refine T_aload_n dX9_fault_14 rfl ?_
    refine T_iload_n dX9_fault_15 rfl ?_
    obtain ⟨r_4, M_5, hc_6, h⟩ := bd2_some h
    refine T_cvi (as := [vI x1]) dX9_fault_16 cw_X9_goesOn ml_X9_152 mi_X9_goesOn se_X9_goesOn lyM_0 rfl (by decide) rfl (Nat.le_of_ble_eq_true rfl) (Nat.le_of_ble_eq_true rfl) (m_X9_goesOn  M_2 x1  _ _ hc_6) ?_
    obtain ⟨rfl, rfl⟩ := sm2 h
    exact T_iret dX9_fault_19 ⟨rfl, rfl, rfl, rfl⟩
  · have h := it_neg hc h
    refine T_iload_n dX9_fault_10 rfl ?_
    refine T_goto (tgt := 19) dX9_fault_11 (by decide) ?_
    obtain ⟨rfl, rfl⟩ := sm2 h
    exact T_iret dX9_fault_19 ⟨rfl, rfl, rfl, rfl⟩
