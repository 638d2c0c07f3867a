def mv_0 : Rf := nwR (fun _ _ => none) 0
def mm_0 : Mem := nwM (fun _ _ => 0, fun _ _ => 0) 0
def mv_1 : Rf := nwR mv_0 1
def mm_1 : Mem := nwM mm_0 1
def mv_2 : Rf := sR mv_1 0 1 (some 1)
def mm_2 : Mem := sJ mm_1 0 4 1
def mv_3 : Rf := nwR mv_2 2
def mm_3 : Mem := nwM mm_2 2
def mv_4 : Rf := sR mv_3 0 5 (some 2)
def mv_5 : Rf := nwR mv_4 3
def mm_4 : Mem := nwM mm_3 3
def mv_6 : Rf := sR mv_5 0 6 (some 3)
def mv_7 : Rf := nwR mv_6 4
def mm_5 : Mem := nwM mm_4 4
def mv_8 : Rf := sR mv_7 0 7 (some 4)
def mv_9 : Rf := nwR mv_8 5
def mm_6 : Mem := nwM mm_5 5
def mv_10 : Rf := sR mv_9 0 8 (some 5)
def mv_11 : Rf := nwR mv_10 6
def mm_7 : Mem := nwM mm_6 6
def mv_12 : Rf := sR mv_11 0 9 (some 6)
def mv_13 : Rf := nwR mv_12 7
def mm_8 : Mem := nwM mm_7 7
def mv_14 : Rf := sR mv_13 0 13 (some 7)
def mv_15 : Rf := nwR mv_14 8
def mm_9 : Mem := nwM mm_8 8
def mv_16 : Rf := sR mv_15 0 14 (some 8)
def mv_17 : Rf := nwR mv_16 9
def mm_10 : Mem := nwM mm_9 9
def mv_18 : Rf := sR mv_17 0 15 (some 9)
def mv_19 : Rf := nwR mv_18 10
def mm_11 : Mem := nwM mm_10 10
def mv_20 : Rf := sR mv_19 0 21 (some 10)
def mv_21 : Rf := nwR mv_20 11
def mm_12 : Mem := nwM mm_11 11
def mv_22 : Rf := sR mv_21 0 22 (some 11)
def mv_23 : Rf := nwR mv_22 12
def mm_13 : Mem := nwM mm_12 12
def mv_24 : Rf := sR mv_23 0 24 (some 12)
def mv_25 : Rf := nwR mv_24 13
def mm_14 : Mem := nwM mm_13 13
def mv_26 : Rf := sR mv_25 0 27 (some 13)
def mv_27 : Rf := nwR mv_26 14
def mm_15 : Mem := nwM mm_14 14
def mv_28 : Rf := sR mv_27 0 28 (some 14)
def mv_29 : Rf := nwR mv_28 15
def mm_16 : Mem := nwM mm_15 15
def mv_30 : Rf := sR mv_29 0 29 (some 15)
def mv_31 : Rf := nwR mv_30 16
def mm_17 : Mem := nwM mm_16 16
def mv_32 : Rf := sR mv_31 0 30 (some 16)
def mv_33 : Rf := nwR mv_32 17
def mm_18 : Mem := nwM mm_17 17
def mv_34 : Rf := sR mv_33 0 31 (some 17)
def mv_35 : Rf := nwR mv_34 18
def mm_19 : Mem := nwM mm_18 18
def mv_36 : Rf := sR mv_35 0 32 (some 18)
def mm_20 : Mem := sI mm_19 2 0 (-9)
def mm_21 : Mem := sI mm_20 2 1 (-9)
def mm_22 : Mem := sI mm_21 2 2 (-9)
def mm_23 : Mem := sI mm_22 2 3 (-9)
def mm_24 : Mem := sI mm_23 2 4 (-9)
def mm_25 : Mem := sI mm_24 2 5 (-9)
def mm_26 : Mem := sI mm_25 5 0 (-9)
def mm_27 : Mem := sI mm_26 5 1 (-9)
def mm_28 : Mem := sI mm_27 5 2 (-9)
def mm_29 : Mem := sI mm_28 5 3 (-9)
set_option maxRecDepth 100000 in
set_option maxHeartbeats 4000000 in
theorem km_1 : Cal yX9_init cX9_init 2 none 2 4 18 1355 true [vR (some 0)] (LAYM.take 1) mv_0 mm_0 (eqp (vI 0) (LAYM.take 19) mv_36 mm_29) := by
  refine Cal.of (by decide +kernel) (Nat.le_of_ble_eq_true rfl) (fun _ => rfl) ?_
  show T RX9 cX9_init 2 none 2 4 18 1355 true (eqp (vI 0) (LAYM.take 19) mv_36 mm_29) 0 [aR (some 0), aU] [] (LAYM.take 1) mv_0 mm_0 0 0
  refine T_aload_n dX9_init_0 rfl ?_
  refine T_objInit dX9_init_1 ml_X9_1 oi_inst oi_code (Nat.le_of_ble_eq_true rfl) (Nat.le_of_ble_eq_true rfl) ?_
  refine T_aload_n dX9_init_4 rfl ?_
  refine T_bipush dX9_init_5 bp_6 ?_
  refine T_newaI (N := 6) (SH' := (LAYM.take 2)) (V' := mv_1) (M' := mm_1) dX9_init_7 ar_int (by decide) (by decide) (Nat.le_of_ble_eq_true rfl) (Nat.le_of_ble_eq_true rfl) (Nat.le_of_ble_eq_true rfl) (Nat.le_of_ble_eq_true rfl) rfl rfl rfl ?_
  refine T_putR (V' := mv_2) dX9_init_9 clOK_X9 fl_X9_7 (Or.inr ⟨rfl, rfl, rfl, fw_X9_7⟩) (show (LAYM.take 2)[0]? = some (8, 0) from rfl) rfl (Or.inr ⟨_, rfl⟩) rfl ?_
  refine T_aload_n dX9_init_12 rfl ?_
  refine T_lconst dX9_init_13 lc_1 ?_
  refine T_putJ (M' := mm_2) dX9_init_14 clOK_X9 fl_X9_13 (Or.inl rfl) (show (LAYM.take 2)[0]? = some (8, 0) from rfl) rfl rfl rfl ?_
  refine T_aload_n dX9_init_17 rfl ?_
  refine T_bipush dX9_init_18 bp_6 ?_
  refine T_newaI (N := 6) (SH' := (LAYM.take 3)) (V' := mv_3) (M' := mm_3) dX9_init_20 ar_int (by decide) (by decide) (Nat.le_of_ble_eq_true rfl) (Nat.le_of_ble_eq_true rfl) (Nat.le_of_ble_eq_true rfl) (Nat.le_of_ble_eq_true rfl) rfl rfl rfl ?_
  refine T_putR (V' := mv_4) dX9_init_22 clOK_X9 fl_X9_17 (Or.inr ⟨rfl, rfl, rfl, fw_X9_17⟩) (show (LAYM.take 3)[0]? = some (8, 0) from rfl) rfl (Or.inr ⟨_, rfl⟩) rfl ?_
  refine T_aload_n dX9_init_25 rfl ?_
  refine T_sipush dX9_init_26 sp_240 ?_
  refine T_newaI (N := 240) (SH' := (LAYM.take 4)) (V' := mv_5) (M' := mm_4) dX9_init_29 ar_int (by decide) (by decide) (Nat.le_of_ble_eq_true rfl) (Nat.le_of_ble_eq_true rfl) (Nat.le_of_ble_eq_true rfl) (Nat.le_of_ble_eq_true rfl) rfl rfl rfl ?_
  refine T_putR (V' := mv_6) dX9_init_31 clOK_X9 fl_X9_20 (Or.inr ⟨rfl, rfl, rfl, fw_X9_20⟩) (show (LAYM.take 4)[0]? = some (8, 0) from rfl) rfl (Or.inr ⟨_, rfl⟩) rfl ?_
  refine T_aload_n dX9_init_34 rfl ?_
  refine T_bipush dX9_init_35 bp_40 ?_
  refine T_newaI (N := 40) (SH' := (LAYM.take 5)) (V' := mv_7) (M' := mm_5) dX9_init_37 ar_int (by decide) (by decide) (Nat.le_of_ble_eq_true rfl) (Nat.le_of_ble_eq_true rfl) (Nat.le_of_ble_eq_true rfl) (Nat.le_of_ble_eq_true rfl) rfl rfl rfl ?_
  refine T_putR (V' := mv_8) dX9_init_39 clOK_X9 fl_X9_23 (Or.inr ⟨rfl, rfl, rfl, fw_X9_23⟩) (show (LAYM.take 5)[0]? = some (8, 0) from rfl) rfl (Or.inr ⟨_, rfl⟩) rfl ?_
  refine T_aload_n dX9_init_42 rfl ?_
  refine T_iconst dX9_init_43 ic_4 ?_
  refine T_newaI (N := 4) (SH' := (LAYM.take 6)) (V' := mv_9) (M' := mm_6) dX9_init_44 ar_int (by decide) (by decide) (Nat.le_of_ble_eq_true rfl) (Nat.le_of_ble_eq_true rfl) (Nat.le_of_ble_eq_true rfl) (Nat.le_of_ble_eq_true rfl) rfl rfl rfl ?_
  refine T_putR (V' := mv_10) dX9_init_46 clOK_X9 fl_X9_26 (Or.inr ⟨rfl, rfl, rfl, fw_X9_26⟩) (show (LAYM.take 6)[0]? = some (8, 0) from rfl) rfl (Or.inr ⟨_, rfl⟩) rfl ?_
  refine T_aload_n dX9_init_49 rfl ?_
  refine T_sipush dX9_init_50 sp_240 ?_
  refine T_newaI (N := 240) (SH' := (LAYM.take 7)) (V' := mv_11) (M' := mm_7) dX9_init_53 ar_int (by decide) (by decide) (Nat.le_of_ble_eq_true rfl) (Nat.le_of_ble_eq_true rfl) (Nat.le_of_ble_eq_true rfl) (Nat.le_of_ble_eq_true rfl) rfl rfl rfl ?_
  refine T_putR (V' := mv_12) dX9_init_55 clOK_X9 fl_X9_29 (Or.inr ⟨rfl, rfl, rfl, fw_X9_29⟩) (show (LAYM.take 7)[0]? = some (8, 0) from rfl) rfl (Or.inr ⟨_, rfl⟩) rfl ?_
  refine T_aload_n dX9_init_58 rfl ?_
  refine T_bipush dX9_init_59 bp_16 ?_
  refine T_newaI (N := 16) (SH' := (LAYM.take 8)) (V' := mv_13) (M' := mm_8) dX9_init_61 ar_int (by decide) (by decide) (Nat.le_of_ble_eq_true rfl) (Nat.le_of_ble_eq_true rfl) (Nat.le_of_ble_eq_true rfl) (Nat.le_of_ble_eq_true rfl) rfl rfl rfl ?_
  refine T_putR (V' := mv_14) dX9_init_63 clOK_X9 fl_X9_32 (Or.inr ⟨rfl, rfl, rfl, fw_X9_32⟩) (show (LAYM.take 8)[0]? = some (8, 0) from rfl) rfl (Or.inr ⟨_, rfl⟩) rfl ?_
  refine T_aload_n dX9_init_66 rfl ?_
  refine T_iconst dX9_init_67 ic_4 ?_
  refine T_newaI (N := 4) (SH' := (LAYM.take 9)) (V' := mv_15) (M' := mm_9) dX9_init_68 ar_int (by decide) (by decide) (Nat.le_of_ble_eq_true rfl) (Nat.le_of_ble_eq_true rfl) (Nat.le_of_ble_eq_true rfl) (Nat.le_of_ble_eq_true rfl) rfl rfl rfl ?_
  refine T_putR (V' := mv_16) dX9_init_70 clOK_X9 fl_X9_35 (Or.inr ⟨rfl, rfl, rfl, fw_X9_35⟩) (show (LAYM.take 9)[0]? = some (8, 0) from rfl) rfl (Or.inr ⟨_, rfl⟩) rfl ?_
  refine T_aload_n dX9_init_73 rfl ?_
  refine T_bipush dX9_init_74 bp_6 ?_
  refine T_newaI (N := 6) (SH' := (LAYM.take 10)) (V' := mv_17) (M' := mm_10) dX9_init_76 ar_int (by decide) (by decide) (Nat.le_of_ble_eq_true rfl) (Nat.le_of_ble_eq_true rfl) (Nat.le_of_ble_eq_true rfl) (Nat.le_of_ble_eq_true rfl) rfl rfl rfl ?_
  refine T_putR (V' := mv_18) dX9_init_78 clOK_X9 fl_X9_38 (Or.inr ⟨rfl, rfl, rfl, fw_X9_38⟩) (show (LAYM.take 10)[0]? = some (8, 0) from rfl) rfl (Or.inr ⟨_, rfl⟩) rfl ?_
  refine T_aload_n dX9_init_81 rfl ?_
  refine T_bipush dX9_init_82 bp_26 ?_
  refine T_newaI (N := 26) (SH' := (LAYM.take 11)) (V' := mv_19) (M' := mm_11) dX9_init_84 ar_int (by decide) (by decide) (Nat.le_of_ble_eq_true rfl) (Nat.le_of_ble_eq_true rfl) (Nat.le_of_ble_eq_true rfl) (Nat.le_of_ble_eq_true rfl) rfl rfl rfl ?_
  refine T_putR (V' := mv_20) dX9_init_86 clOK_X9 fl_X9_41 (Or.inr ⟨rfl, rfl, rfl, fw_X9_41⟩) (show (LAYM.take 11)[0]? = some (8, 0) from rfl) rfl (Or.inr ⟨_, rfl⟩) rfl ?_
  refine T_aload_n dX9_init_89 rfl ?_
  refine T_bipush dX9_init_90 bp_8 ?_
  refine T_newaI (N := 8) (SH' := (LAYM.take 12)) (V' := mv_21) (M' := mm_12) dX9_init_92 ar_int (by decide) (by decide) (Nat.le_of_ble_eq_true rfl) (Nat.le_of_ble_eq_true rfl) (Nat.le_of_ble_eq_true rfl) (Nat.le_of_ble_eq_true rfl) rfl rfl rfl ?_
  refine T_putR (V' := mv_22) dX9_init_94 clOK_X9 fl_X9_44 (Or.inr ⟨rfl, rfl, rfl, fw_X9_44⟩) (show (LAYM.take 12)[0]? = some (8, 0) from rfl) rfl (Or.inr ⟨_, rfl⟩) rfl ?_
  refine T_aload_n dX9_init_97 rfl ?_
  refine T_bipush dX9_init_98 bp_8 ?_
  refine T_newaI (N := 8) (SH' := (LAYM.take 13)) (V' := mv_23) (M' := mm_13) dX9_init_100 ar_int (by decide) (by decide) (Nat.le_of_ble_eq_true rfl) (Nat.le_of_ble_eq_true rfl) (Nat.le_of_ble_eq_true rfl) (Nat.le_of_ble_eq_true rfl) rfl rfl rfl ?_
  refine T_putR (V' := mv_24) dX9_init_102 clOK_X9 fl_X9_47 (Or.inr ⟨rfl, rfl, rfl, fw_X9_47⟩) (show (LAYM.take 13)[0]? = some (8, 0) from rfl) rfl (Or.inr ⟨_, rfl⟩) rfl ?_
  refine T_aload_n dX9_init_105 rfl ?_
  refine T_sipush dX9_init_106 sp_680 ?_
  refine T_newaI (N := 680) (SH' := (LAYM.take 14)) (V' := mv_25) (M' := mm_14) dX9_init_109 ar_int (by decide) (by decide) (Nat.le_of_ble_eq_true rfl) (Nat.le_of_ble_eq_true rfl) (Nat.le_of_ble_eq_true rfl) (Nat.le_of_ble_eq_true rfl) rfl rfl rfl ?_
  refine T_putR (V' := mv_26) dX9_init_111 clOK_X9 fl_X9_50 (Or.inr ⟨rfl, rfl, rfl, fw_X9_50⟩) (show (LAYM.take 14)[0]? = some (8, 0) from rfl) rfl (Or.inr ⟨_, rfl⟩) rfl ?_
  refine T_aload_n dX9_init_114 rfl ?_
  refine T_iconst dX9_init_115 ic_3 ?_
  refine T_newaI (N := 3) (SH' := (LAYM.take 15)) (V' := mv_27) (M' := mm_15) dX9_init_116 ar_int (by decide) (by decide) (Nat.le_of_ble_eq_true rfl) (Nat.le_of_ble_eq_true rfl) (Nat.le_of_ble_eq_true rfl) (Nat.le_of_ble_eq_true rfl) rfl rfl rfl ?_
  refine T_putR (V' := mv_28) dX9_init_118 clOK_X9 fl_X9_53 (Or.inr ⟨rfl, rfl, rfl, fw_X9_53⟩) (show (LAYM.take 15)[0]? = some (8, 0) from rfl) rfl (Or.inr ⟨_, rfl⟩) rfl ?_
  refine T_aload_n dX9_init_121 rfl ?_
  refine T_bipush dX9_init_122 bp_51 ?_
  refine T_newaI (N := 51) (SH' := (LAYM.take 16)) (V' := mv_29) (M' := mm_16) dX9_init_124 ar_int (by decide) (by decide) (Nat.le_of_ble_eq_true rfl) (Nat.le_of_ble_eq_true rfl) (Nat.le_of_ble_eq_true rfl) (Nat.le_of_ble_eq_true rfl) rfl rfl rfl ?_
  refine T_putR (V' := mv_30) dX9_init_126 clOK_X9 fl_X9_56 (Or.inr ⟨rfl, rfl, rfl, fw_X9_56⟩) (show (LAYM.take 16)[0]? = some (8, 0) from rfl) rfl (Or.inr ⟨_, rfl⟩) rfl ?_
  refine T_aload_n dX9_init_129 rfl ?_
  refine T_iconst dX9_init_130 ic_3 ?_
  refine T_newaI (N := 3) (SH' := (LAYM.take 17)) (V' := mv_31) (M' := mm_17) dX9_init_131 ar_int (by decide) (by decide) (Nat.le_of_ble_eq_true rfl) (Nat.le_of_ble_eq_true rfl) (Nat.le_of_ble_eq_true rfl) (Nat.le_of_ble_eq_true rfl) rfl rfl rfl ?_
  refine T_putR (V' := mv_32) dX9_init_133 clOK_X9 fl_X9_59 (Or.inr ⟨rfl, rfl, rfl, fw_X9_59⟩) (show (LAYM.take 17)[0]? = some (8, 0) from rfl) rfl (Or.inr ⟨_, rfl⟩) rfl ?_
  refine T_aload_n dX9_init_136 rfl ?_
  refine T_bipush dX9_init_137 bp_8 ?_
  refine T_newaI (N := 8) (SH' := (LAYM.take 18)) (V' := mv_33) (M' := mm_18) dX9_init_139 ar_int (by decide) (by decide) (Nat.le_of_ble_eq_true rfl) (Nat.le_of_ble_eq_true rfl) (Nat.le_of_ble_eq_true rfl) (Nat.le_of_ble_eq_true rfl) rfl rfl rfl ?_
  refine T_putR (V' := mv_34) dX9_init_141 clOK_X9 fl_X9_62 (Or.inr ⟨rfl, rfl, rfl, fw_X9_62⟩) (show (LAYM.take 18)[0]? = some (8, 0) from rfl) rfl (Or.inr ⟨_, rfl⟩) rfl ?_
  refine T_aload_n dX9_init_144 rfl ?_
  refine T_bipush dX9_init_145 bp_6 ?_
  refine T_newaJ (N := 6) (SH' := (LAYM.take 19)) (V' := mv_35) (M' := mm_19) dX9_init_147 ar_long (by decide) (by decide) (Nat.le_of_ble_eq_true rfl) (Nat.le_of_ble_eq_true rfl) (Nat.le_of_ble_eq_true rfl) (Nat.le_of_ble_eq_true rfl) rfl rfl rfl ?_
  refine T_putR (V' := mv_36) dX9_init_149 clOK_X9 fl_X9_65 (Or.inr ⟨rfl, rfl, rfl, fw_X9_65⟩) (show (LAYM.take 19)[0]? = some (8, 0) from rfl) rfl (Or.inr ⟨_, rfl⟩) rfl ?_
  refine T_iconst dX9_init_152 ic_0 ?_
  refine T_istore_n (i := 1) (L' := [aR (some 0), aI 0]) dX9_init_153 rfl (Nat.le_of_ble_eq_true rfl) rfl ?_
  refine T_iload_n dX9_init_154 rfl ?_
  refine T_bipush dX9_init_155 bp_6 ?_
  refine T_icmp_ge (tgt := 174) dX9_init_157 (by decide) (fun hc => absurd hc (by decide)) (fun _ => ?_)
  refine T_aload_n dX9_init_160 rfl ?_
  refine T_getR (o := some 2) dX9_init_161 clOK_X9 fl_X9_17 (show (LAYM.take 19)[0]? = some (8, 0) from rfl) rfl (by decide +kernel) ?_
  refine T_iload_n dX9_init_164 rfl ?_
  refine T_bipush dX9_init_165 bp_m9 ?_
  refine T_iast (M' := mm_20) dX9_init_167 (show (LAYM.take 19)[2]? = some (20, 6) from rfl) (inb_in (by decide)) rfl ?_
  refine T_iinc (v := 1) (L' := [aR (some 0), aI 1]) dX9_init_168 rfl (by decide) (Nat.le_of_ble_eq_true rfl) rfl ?_
  refine T_goto (tgt := 154) dX9_init_171 (by decide) ?_
  refine T_iload_n dX9_init_154 rfl ?_
  refine T_bipush dX9_init_155 bp_6 ?_
  refine T_icmp_ge (tgt := 174) dX9_init_157 (by decide) (fun hc => absurd hc (by decide)) (fun _ => ?_)
  refine T_aload_n dX9_init_160 rfl ?_
  refine T_getR (o := some 2) dX9_init_161 clOK_X9 fl_X9_17 (show (LAYM.take 19)[0]? = some (8, 0) from rfl) rfl (by decide +kernel) ?_
  refine T_iload_n dX9_init_164 rfl ?_
  refine T_bipush dX9_init_165 bp_m9 ?_
  refine T_iast (M' := mm_21) dX9_init_167 (show (LAYM.take 19)[2]? = some (20, 6) from rfl) (inb_in (by decide)) rfl ?_
  refine T_iinc (v := (nI 2)) (L' := [aR (some 0), aI (nI 2)]) dX9_init_168 rfl (by decide) (Nat.le_of_ble_eq_true rfl) rfl ?_
  refine T_goto (tgt := 154) dX9_init_171 (by decide) ?_
  refine T_iload_n dX9_init_154 rfl ?_
  refine T_bipush dX9_init_155 bp_6 ?_
  refine T_icmp_ge (tgt := 174) dX9_init_157 (by decide) (fun hc => absurd hc (by decide)) (fun _ => ?_)
  refine T_aload_n dX9_init_160 rfl ?_
  refine T_getR (o := some 2) dX9_init_161 clOK_X9 fl_X9_17 (show (LAYM.take 19)[0]? = some (8, 0) from rfl) rfl (by decide +kernel) ?_
  refine T_iload_n dX9_init_164 rfl ?_
  refine T_bipush dX9_init_165 bp_m9 ?_
  refine T_iast (M' := mm_22) dX9_init_167 (show (LAYM.take 19)[2]? = some (20, 6) from rfl) (inb_in (by decide)) rfl ?_
  refine T_iinc (v := (nI 3)) (L' := [aR (some 0), aI (nI 3)]) dX9_init_168 rfl (by decide) (Nat.le_of_ble_eq_true rfl) rfl ?_
  refine T_goto (tgt := 154) dX9_init_171 (by decide) ?_
  refine T_iload_n dX9_init_154 rfl ?_
  refine T_bipush dX9_init_155 bp_6 ?_
  refine T_icmp_ge (tgt := 174) dX9_init_157 (by decide) (fun hc => absurd hc (by decide)) (fun _ => ?_)
  refine T_aload_n dX9_init_160 rfl ?_
  refine T_getR (o := some 2) dX9_init_161 clOK_X9 fl_X9_17 (show (LAYM.take 19)[0]? = some (8, 0) from rfl) rfl (by decide +kernel) ?_
  refine T_iload_n dX9_init_164 rfl ?_
  refine T_bipush dX9_init_165 bp_m9 ?_
  refine T_iast (M' := mm_23) dX9_init_167 (show (LAYM.take 19)[2]? = some (20, 6) from rfl) (inb_in (by decide)) rfl ?_
  refine T_iinc (v := (nI 4)) (L' := [aR (some 0), aI (nI 4)]) dX9_init_168 rfl (by decide) (Nat.le_of_ble_eq_true rfl) rfl ?_
  refine T_goto (tgt := 154) dX9_init_171 (by decide) ?_
  refine T_iload_n dX9_init_154 rfl ?_
  refine T_bipush dX9_init_155 bp_6 ?_
  refine T_icmp_ge (tgt := 174) dX9_init_157 (by decide) (fun hc => absurd hc (by decide)) (fun _ => ?_)
  refine T_aload_n dX9_init_160 rfl ?_
  refine T_getR (o := some 2) dX9_init_161 clOK_X9 fl_X9_17 (show (LAYM.take 19)[0]? = some (8, 0) from rfl) rfl (by decide +kernel) ?_
  refine T_iload_n dX9_init_164 rfl ?_
  refine T_bipush dX9_init_165 bp_m9 ?_
  refine T_iast (M' := mm_24) dX9_init_167 (show (LAYM.take 19)[2]? = some (20, 6) from rfl) (inb_in (by decide)) rfl ?_
  refine T_iinc (v := (nI 5)) (L' := [aR (some 0), aI (nI 5)]) dX9_init_168 rfl (by decide) (Nat.le_of_ble_eq_true rfl) rfl ?_
  refine T_goto (tgt := 154) dX9_init_171 (by decide) ?_
  refine T_iload_n dX9_init_154 rfl ?_
  refine T_bipush dX9_init_155 bp_6 ?_
  refine T_icmp_ge (tgt := 174) dX9_init_157 (by decide) (fun hc => absurd hc (by decide)) (fun _ => ?_)
  refine T_aload_n dX9_init_160 rfl ?_
  refine T_getR (o := some 2) dX9_init_161 clOK_X9 fl_X9_17 (show (LAYM.take 19)[0]? = some (8, 0) from rfl) rfl (by decide +kernel) ?_
  refine T_iload_n dX9_init_164 rfl ?_
  refine T_bipush dX9_init_165 bp_m9 ?_
  refine T_iast (M' := mm_25) dX9_init_167 (show (LAYM.take 19)[2]? = some (20, 6) from rfl) (inb_in (by decide)) rfl ?_
  refine T_iinc (v := (nI 6)) (L' := [aR (some 0), aI (nI 6)]) dX9_init_168 rfl (by decide) (Nat.le_of_ble_eq_true rfl) rfl ?_
  refine T_goto (tgt := 154) dX9_init_171 (by decide) ?_
  refine T_iload_n dX9_init_154 rfl ?_
  refine T_bipush dX9_init_155 bp_6 ?_
  refine T_icmp_ge (tgt := 174) dX9_init_157 (by decide) (fun _ => ?_) (fun hc => absurd (by decide) hc)
  refine T_iconst dX9_init_174 ic_0 ?_
  refine T_istore_n (i := 1) (L' := [aR (some 0), aI 0]) dX9_init_175 rfl (Nat.le_of_ble_eq_true rfl) rfl ?_
  refine T_iload_n dX9_init_176 rfl ?_
  refine T_iconst dX9_init_177 ic_4 ?_
  refine T_icmp_ge (tgt := 195) dX9_init_178 (by decide) (fun hc => absurd hc (by decide)) (fun _ => ?_)
  refine T_aload_n dX9_init_181 rfl ?_
  refine T_getR (o := some 5) dX9_init_182 clOK_X9 fl_X9_26 (show (LAYM.take 19)[0]? = some (8, 0) from rfl) rfl (by decide +kernel) ?_
  refine T_iload_n dX9_init_185 rfl ?_
  refine T_bipush dX9_init_186 bp_m9 ?_
  refine T_iast (M' := mm_26) dX9_init_188 (show (LAYM.take 19)[5]? = some (20, 4) from rfl) (inb_in (by decide)) rfl ?_
  refine T_iinc (v := 1) (L' := [aR (some 0), aI 1]) dX9_init_189 rfl (by decide) (Nat.le_of_ble_eq_true rfl) rfl ?_
  refine T_goto (tgt := 176) dX9_init_192 (by decide) ?_
  refine T_iload_n dX9_init_176 rfl ?_
  refine T_iconst dX9_init_177 ic_4 ?_
  refine T_icmp_ge (tgt := 195) dX9_init_178 (by decide) (fun hc => absurd hc (by decide)) (fun _ => ?_)
  refine T_aload_n dX9_init_181 rfl ?_
  refine T_getR (o := some 5) dX9_init_182 clOK_X9 fl_X9_26 (show (LAYM.take 19)[0]? = some (8, 0) from rfl) rfl (by decide +kernel) ?_
  refine T_iload_n dX9_init_185 rfl ?_
  refine T_bipush dX9_init_186 bp_m9 ?_
  refine T_iast (M' := mm_27) dX9_init_188 (show (LAYM.take 19)[5]? = some (20, 4) from rfl) (inb_in (by decide)) rfl ?_
  refine T_iinc (v := (nI 2)) (L' := [aR (some 0), aI (nI 2)]) dX9_init_189 rfl (by decide) (Nat.le_of_ble_eq_true rfl) rfl ?_
  refine T_goto (tgt := 176) dX9_init_192 (by decide) ?_
  refine T_iload_n dX9_init_176 rfl ?_
  refine T_iconst dX9_init_177 ic_4 ?_
  refine T_icmp_ge (tgt := 195) dX9_init_178 (by decide) (fun hc => absurd hc (by decide)) (fun _ => ?_)
  refine T_aload_n dX9_init_181 rfl ?_
  refine T_getR (o := some 5) dX9_init_182 clOK_X9 fl_X9_26 (show (LAYM.take 19)[0]? = some (8, 0) from rfl) rfl (by decide +kernel) ?_
  refine T_iload_n dX9_init_185 rfl ?_
  refine T_bipush dX9_init_186 bp_m9 ?_
  refine T_iast (M' := mm_28) dX9_init_188 (show (LAYM.take 19)[5]? = some (20, 4) from rfl) (inb_in (by decide)) rfl ?_
  refine T_iinc (v := (nI 3)) (L' := [aR (some 0), aI (nI 3)]) dX9_init_189 rfl (by decide) (Nat.le_of_ble_eq_true rfl) rfl ?_
  refine T_goto (tgt := 176) dX9_init_192 (by decide) ?_
  refine T_iload_n dX9_init_176 rfl ?_
  refine T_iconst dX9_init_177 ic_4 ?_
  refine T_icmp_ge (tgt := 195) dX9_init_178 (by decide) (fun hc => absurd hc (by decide)) (fun _ => ?_)
  refine T_aload_n dX9_init_181 rfl ?_
  refine T_getR (o := some 5) dX9_init_182 clOK_X9 fl_X9_26 (show (LAYM.take 19)[0]? = some (8, 0) from rfl) rfl (by decide +kernel) ?_
  refine T_iload_n dX9_init_185 rfl ?_
  refine T_bipush dX9_init_186 bp_m9 ?_
  refine T_iast (M' := mm_29) dX9_init_188 (show (LAYM.take 19)[5]? = some (20, 4) from rfl) (inb_in (by decide)) rfl ?_
  refine T_iinc (v := (nI 4)) (L' := [aR (some 0), aI (nI 4)]) dX9_init_189 rfl (by decide) (Nat.le_of_ble_eq_true rfl) rfl ?_
  refine T_goto (tgt := 176) dX9_init_192 (by decide) ?_
  refine T_iload_n dX9_init_176 rfl ?_
  refine T_iconst dX9_init_177 ic_4 ?_
  refine T_icmp_ge (tgt := 195) dX9_init_178 (by decide) (fun _ => ?_) (fun hc => absurd (by decide) hc)
  exact T_vret dX9_init_195 ⟨rfl, rfl, rfl, rfl⟩
