def cv_0 : Rf := nwR (fun _ _ => none) 0
def cm_0 : Mem := nwM (fun _ _ => 0, fun _ _ => 0) 0
def cv_1 : Rf := nwR cv_0 1
def cm_1 : Mem := nwM cm_0 1
def cv_2 : Rf := sR cv_1 0 0 (some 1)
def cv_3 : Rf := nwR cv_2 2
def cm_2 : Mem := nwM cm_1 2
def cv_4 : Rf := sR cv_3 0 1 (some 2)
def cv_5 : Rf := nwR cv_4 3
def cm_3 : Mem := nwM cm_2 3
def cv_6 : Rf := nwR cv_5 4
def cm_4 : Mem := nwM cm_3 4
def cv_7 : Rf := sR cv_6 3 0 (some 4)
def cv_8 : Rf := nwR cv_7 5
def cm_5 : Mem := nwM cm_4 5
def cv_9 : Rf := sR cv_8 3 1 (some 5)
def cv_10 : Rf := nwR cv_9 6
def cm_6 : Mem := nwM cm_5 6
def cv_11 : Rf := sR cv_10 3 2 (some 6)
def cv_12 : Rf := sR cv_11 0 2 (some 3)
def cv_13 : Rf := nwR cv_12 7
def cm_7 : Mem := nwM cm_6 7
def cv_14 : Rf := nwR cv_13 8
def cm_8 : Mem := nwM cm_7 8
def cv_15 : Rf := sR cv_14 7 4 (some 8)
def cv_16 : Rf := sR cv_15 0 3 (some 7)
def cv_17 : Rf := nwR cv_16 9
def cm_9 : Mem := nwM cm_8 9
def cv_18 : Rf := nwR cv_17 10
def cm_10 : Mem := nwM cm_9 10
def cv_19 : Rf := sR cv_18 9 1 (some 10)
def cv_20 : Rf := nwR cv_19 11
def cm_11 : Mem := nwM cm_10 11
def cv_21 : Rf := sR cv_20 9 2 (some 11)
def cv_22 : Rf := sR cv_21 9 0 (some 7)
def cv_23 : Rf := sR cv_22 0 4 (some 9)
def cv_24 : Rf := nwR cv_23 12
def cm_12 : Mem := nwM cm_11 12
def cv_25 : Rf := sR cv_24 0 5 (some 12)
def cv_26 : Rf := nwR cv_25 13
def cm_13 : Mem := nwM cm_12 13
def cv_27 : Rf := sR cv_26 0 6 (some 13)
def cv_28 : Rf := nwR cv_27 14
def cm_14 : Mem := nwM cm_13 14
def cv_29 : Rf := sR cv_28 0 7 (some 14)
def cv_30 : Rf := nwR cv_29 15
def cm_15 : Mem := nwM cm_14 15
def cv_31 : Rf := nwR cv_30 16
def cm_16 : Mem := nwM cm_15 16
def cv_32 : Rf := sR cv_31 15 0 (some 16)
def cv_33 : Rf := nwR cv_32 17
def cm_17 : Mem := nwM cm_16 17
def cv_34 : Rf := sR cv_33 15 1 (some 17)
def cv_35 : Rf := nwR cv_34 18
def cm_18 : Mem := nwM cm_17 18
def cv_36 : Rf := sR cv_35 15 2 (some 18)
def cv_37 : Rf := sR cv_36 0 9 (some 15)
def cv_38 : Rf := nwR cv_37 19
def cm_19 : Mem := nwM cm_18 19
def cv_39 : Rf := nwR cv_38 20
def cm_20 : Mem := nwM cm_19 20
def cv_40 : Rf := sR cv_39 19 2 (some 20)
def cv_41 : Rf := sR cv_40 19 0 (some 7)
def cv_42 : Rf := nwR cv_41 21
def cm_21 : Mem := nwM cm_20 21
def cv_43 : Rf := nwR cv_42 22
def cm_22 : Mem := nwM cm_21 22
def cv_44 : Rf := sR cv_43 21 1 (some 22)
def cv_45 : Rf := nwR cv_44 23
def cm_23 : Mem := nwM cm_22 23
def cv_46 : Rf := sR cv_45 21 2 (some 23)
def cv_47 : Rf := sR cv_46 21 0 (some 7)
def cv_48 : Rf := sR cv_47 19 1 (some 21)
def cv_49 : Rf := sR cv_48 0 10 (some 19)
def cv_50 : Rf := nwR cv_49 24
def cm_24 : Mem := nwM cm_23 24
def cv_51 : Rf := sR cv_50 0 11 (some 24)
def cm_25 : Mem := sJ cm_24 0 14 1
def cv_52 : Rf := nwR cv_51 25
def cm_26 : Mem := nwM cm_25 25
def cv_53 : Rf := sR cv_52 0 16 (some 25)
def cv_54 : Rf := nwR cv_53 26
def cm_27 : Mem := nwM cm_26 26
def cm_28 : Mem := sI cm_27 26 1 (-1)
def cv_55 : Rf := nwR cv_54 27
def cm_29 : Mem := nwM cm_28 27
def cv_56 : Rf := sR cv_55 26 0 (some 27)
def cv_57 : Rf := sR cv_56 1 0 (some 26)
def cv_58 : Rf := nwR cv_57 28
def cm_30 : Mem := nwM cm_29 28
def cm_31 : Mem := sI cm_30 28 1 (-1)
def cv_59 : Rf := nwR cv_58 29
def cm_32 : Mem := nwM cm_31 29
def cv_60 : Rf := sR cv_59 28 0 (some 29)
def cv_61 : Rf := sR cv_60 1 1 (some 28)
def cv_62 : Rf := nwR cv_61 30
def cm_33 : Mem := nwM cm_32 30
def cm_34 : Mem := sI cm_33 30 1 (-1)
def cv_63 : Rf := nwR cv_62 31
def cm_35 : Mem := nwM cm_34 31
def cv_64 : Rf := sR cv_63 30 0 (some 31)
def cv_65 : Rf := sR cv_64 1 2 (some 30)
def cv_66 : Rf := nwR cv_65 32
def cm_36 : Mem := nwM cm_35 32
def cm_37 : Mem := sI cm_36 32 1 (-1)
def cv_67 : Rf := nwR cv_66 33
def cm_38 : Mem := nwM cm_37 33
def cv_68 : Rf := sR cv_67 32 0 (some 33)
def cv_69 : Rf := sR cv_68 1 3 (some 32)
def cv_70 : Rf := nwR cv_69 34
def cm_39 : Mem := nwM cm_38 34
def cm_40 : Mem := sI cm_39 34 1 (-1)
def cv_71 : Rf := nwR cv_70 35
def cm_41 : Mem := nwM cm_40 35
def cv_72 : Rf := sR cv_71 34 0 (some 35)
def cv_73 : Rf := sR cv_72 1 4 (some 34)
def cv_74 : Rf := nwR cv_73 36
def cm_42 : Mem := nwM cm_41 36
def cm_43 : Mem := sI cm_42 36 1 (-1)
def cv_75 : Rf := nwR cv_74 37
def cm_44 : Mem := nwM cm_43 37
def cv_76 : Rf := sR cv_75 36 0 (some 37)
def cv_77 : Rf := sR cv_76 1 5 (some 36)
def cv_78 : Rf := nwR cv_77 38
def cm_45 : Mem := nwM cm_44 38
def cm_46 : Mem := sI cm_45 38 1 (-1)
def cv_79 : Rf := nwR cv_78 39
def cm_47 : Mem := nwM cm_46 39
def cv_80 : Rf := sR cv_79 38 0 (some 39)
def cv_81 : Rf := sR cv_80 2 0 (some 38)
def cv_82 : Rf := nwR cv_81 40
def cm_48 : Mem := nwM cm_47 40
def cm_49 : Mem := sI cm_48 40 1 (-1)
def cv_83 : Rf := nwR cv_82 41
def cm_50 : Mem := nwM cm_49 41
def cv_84 : Rf := sR cv_83 40 0 (some 41)
def cv_85 : Rf := sR cv_84 2 1 (some 40)
def cv_86 : Rf := nwR cv_85 42
def cm_51 : Mem := nwM cm_50 42
def cm_52 : Mem := sI cm_51 42 1 (-1)
def cv_87 : Rf := nwR cv_86 43
def cm_53 : Mem := nwM cm_52 43
def cv_88 : Rf := sR cv_87 42 0 (some 43)
def cv_89 : Rf := sR cv_88 2 2 (some 42)
def cv_90 : Rf := nwR cv_89 44
def cm_54 : Mem := nwM cm_53 44
def cm_55 : Mem := sI cm_54 44 1 (-1)
def cv_91 : Rf := nwR cv_90 45
def cm_56 : Mem := nwM cm_55 45
def cv_92 : Rf := sR cv_91 44 0 (some 45)
def cv_93 : Rf := sR cv_92 2 3 (some 44)
def cv_94 : Rf := nwR cv_93 46
def cm_57 : Mem := nwM cm_56 46
def cv_95 : Rf := nwR cv_94 47
def cm_58 : Mem := nwM cm_57 47
def cv_96 : Rf := sR cv_95 46 1 (some 47)
def cv_97 : Rf := nwR cv_96 48
def cm_59 : Mem := nwM cm_58 48
def cv_98 : Rf := sR cv_97 46 2 (some 48)
def cv_99 : Rf := sR cv_98 46 0 (some 7)
def cv_100 : Rf := sR cv_99 12 0 (some 46)
def cv_101 : Rf := nwR cv_100 49
def cm_60 : Mem := nwM cm_59 49
def cv_102 : Rf := nwR cv_101 50
def cm_61 : Mem := nwM cm_60 50
def cv_103 : Rf := sR cv_102 49 1 (some 50)
def cv_104 : Rf := nwR cv_103 51
def cm_62 : Mem := nwM cm_61 51
def cv_105 : Rf := sR cv_104 49 2 (some 51)
def cv_106 : Rf := sR cv_105 49 0 (some 7)
def cv_107 : Rf := sR cv_106 12 1 (some 49)
def cv_108 : Rf := nwR cv_107 52
def cm_63 : Mem := nwM cm_62 52
def cv_109 : Rf := nwR cv_108 53
def cm_64 : Mem := nwM cm_63 53
def cv_110 : Rf := sR cv_109 52 1 (some 53)
def cv_111 : Rf := nwR cv_110 54
def cm_65 : Mem := nwM cm_64 54
def cv_112 : Rf := sR cv_111 52 2 (some 54)
def cv_113 : Rf := sR cv_112 52 0 (some 7)
def cv_114 : Rf := sR cv_113 12 2 (some 52)
def cv_115 : Rf := nwR cv_114 55
def cm_66 : Mem := nwM cm_65 55
def cm_67 : Mem := sI cm_66 55 0 0
def cv_116 : Rf := sR cv_115 55 1 (some 7)
def cv_117 : Rf := sR cv_116 13 0 (some 55)
def cv_118 : Rf := nwR cv_117 56
def cm_68 : Mem := nwM cm_67 56
def cm_69 : Mem := sI cm_68 56 0 1
def cv_119 : Rf := sR cv_118 56 1 (some 7)
def cv_120 : Rf := sR cv_119 13 1 (some 56)
def cv_121 : Rf := nwR cv_120 57
def cm_70 : Mem := nwM cm_69 57
def cm_71 : Mem := sI cm_70 57 0 (nI 2)
def cv_122 : Rf := sR cv_121 57 1 (some 7)
def cv_123 : Rf := sR cv_122 13 2 (some 57)
def cv_124 : Rf := nwR cv_123 58
def cm_72 : Mem := nwM cm_71 58
def cm_73 : Mem := sI cm_72 58 0 (nI 3)
def cv_125 : Rf := sR cv_124 58 1 (some 7)
def cv_126 : Rf := sR cv_125 13 3 (some 58)
def cv_127 : Rf := nwR cv_126 59
def cm_74 : Mem := nwM cm_73 59
def cm_75 : Mem := sI cm_74 59 0 (nI 4)
def cv_128 : Rf := sR cv_127 59 1 (some 7)
def cv_129 : Rf := sR cv_128 13 4 (some 59)
def cv_130 : Rf := nwR cv_129 60
def cm_76 : Mem := nwM cm_75 60
def cm_77 : Mem := sI cm_76 60 0 (nI 5)
def cv_131 : Rf := sR cv_130 60 1 (some 7)
def cv_132 : Rf := sR cv_131 13 5 (some 60)
set_option maxRecDepth 100000 in
set_option maxHeartbeats 4000000 in
theorem kc_1 : Cal yX4_init cX4_init 1 none 2 4 3 26 true [vR (some 3)] (LAYC.take 4) cv_5 cm_3 (eqp (vI 0) (LAYC.take 7) cv_11 cm_6) := by
  refine Cal.of (by decide +kernel) (Nat.le_of_ble_eq_true rfl) (fun _ => rfl) ?_
  show T RX4 cX4_init 1 none 2 4 3 26 true (eqp (vI 0) (LAYC.take 7) cv_11 cm_6) 0 [aR (some 3)] [] (LAYC.take 4) cv_5 cm_3 0 0
  refine T_aload_n dX4_init_0 rfl ?_
  refine T_objInit dX4_init_1 ml_X4_3 oi_inst oi_code (Nat.le_of_ble_eq_true rfl) (Nat.le_of_ble_eq_true rfl) ?_
  refine T_aload_n dX4_init_4 rfl ?_
  refine T_bipush dX4_init_5 bp_16 ?_
  refine T_newaI (N := 16) (SH' := (LAYC.take 5)) (V' := cv_6) (M' := cm_4) dX4_init_7 ar_int (by decide) (by decide) (Nat.le_of_ble_eq_true rfl) (Nat.le_of_ble_eq_true rfl) (Nat.le_of_ble_eq_true rfl) (Nat.le_of_ble_eq_true rfl) rfl rfl rfl ?_
  refine T_putR (V' := cv_7) dX4_init_9 clOK_X4 fl_X4_9 (Or.inr ⟨rfl, rfl, rfl, fw_X4_9⟩) (show (LAYC.take 5)[3]? = some (4, 0) from rfl) rfl (Or.inr ⟨_, rfl⟩) rfl ?_
  refine T_aload_n dX4_init_12 rfl ?_
  refine T_iconst dX4_init_13 ic_4 ?_
  refine T_newaI (N := 4) (SH' := (LAYC.take 6)) (V' := cv_8) (M' := cm_5) dX4_init_14 ar_int (by decide) (by decide) (Nat.le_of_ble_eq_true rfl) (Nat.le_of_ble_eq_true rfl) (Nat.le_of_ble_eq_true rfl) (Nat.le_of_ble_eq_true rfl) rfl rfl rfl ?_
  refine T_putR (V' := cv_9) dX4_init_16 clOK_X4 fl_X4_15 (Or.inr ⟨rfl, rfl, rfl, fw_X4_15⟩) (show (LAYC.take 6)[3]? = some (4, 0) from rfl) rfl (Or.inr ⟨_, rfl⟩) rfl ?_
  refine T_aload_n dX4_init_19 rfl ?_
  refine T_bipush dX4_init_20 bp_6 ?_
  refine T_newaI (N := 6) (SH' := (LAYC.take 7)) (V' := cv_10) (M' := cm_6) dX4_init_22 ar_int (by decide) (by decide) (Nat.le_of_ble_eq_true rfl) (Nat.le_of_ble_eq_true rfl) (Nat.le_of_ble_eq_true rfl) (Nat.le_of_ble_eq_true rfl) rfl rfl rfl ?_
  refine T_putR (V' := cv_11) dX4_init_24 clOK_X4 fl_X4_18 (Or.inr ⟨rfl, rfl, rfl, fw_X4_18⟩) (show (LAYC.take 7)[3]? = some (4, 0) from rfl) rfl (Or.inr ⟨_, rfl⟩) rfl ?_
  exact T_vret dX4_init_27 ⟨rfl, rfl, rfl, rfl⟩
set_option maxRecDepth 100000 in
set_option maxHeartbeats 4000000 in
theorem kc_2 : Cal yX2_init cX2_init 1 none 2 4 1 4 true [vR (some 7)] (LAYC.take 8) cv_13 cm_7 (eqp (vI 0) (LAYC.take 9) cv_15 cm_8) := by
  refine Cal.of (by decide +kernel) (Nat.le_of_ble_eq_true rfl) (fun _ => rfl) ?_
  show T RX2 cX2_init 1 none 2 4 1 4 true (eqp (vI 0) (LAYC.take 9) cv_15 cm_8) 0 [aR (some 7)] [] (LAYC.take 8) cv_13 cm_7 0 0
  refine T_aload_n dX2_init_0 rfl ?_
  refine T_objInit dX2_init_1 ml_X2_3 oi_inst oi_code (Nat.le_of_ble_eq_true rfl) (Nat.le_of_ble_eq_true rfl) ?_
  refine T_aload_n dX2_init_4 rfl ?_
  refine T_iconst dX2_init_5 ic_4 ?_
  refine T_newaI (N := 4) (SH' := (LAYC.take 9)) (V' := cv_14) (M' := cm_8) dX2_init_6 ar_int (by decide) (by decide) (Nat.le_of_ble_eq_true rfl) (Nat.le_of_ble_eq_true rfl) (Nat.le_of_ble_eq_true rfl) (Nat.le_of_ble_eq_true rfl) rfl rfl rfl ?_
  refine T_putR (V' := cv_15) dX2_init_8 clOK_X2 fl_X2_9 (Or.inr ⟨rfl, rfl, rfl, fw_X2_9⟩) (show (LAYC.take 9)[7]? = some (2, 0) from rfl) rfl (Or.inr ⟨_, rfl⟩) rfl ?_
  exact T_vret dX2_init_11 ⟨rfl, rfl, rfl, rfl⟩
set_option maxRecDepth 100000 in
set_option maxHeartbeats 4000000 in
theorem kc_3 : Cal yX1_init cX1_init 2 none 2 4 2 24 true [vR (some 9), vR (some 7)] (LAYC.take 10) cv_17 cm_9 (eqp (vI 0) (LAYC.take 12) cv_22 cm_11) := by
  refine Cal.of (by decide +kernel) (Nat.le_of_ble_eq_true rfl) (fun _ => rfl) ?_
  show T RX1 cX1_init 2 none 2 4 2 24 true (eqp (vI 0) (LAYC.take 12) cv_22 cm_11) 0 [aR (some 9), aR (some 7)] [] (LAYC.take 10) cv_17 cm_9 0 0
  refine T_aload_n dX1_init_0 rfl ?_
  refine T_objInit dX1_init_1 ml_X1_3 oi_inst oi_code (Nat.le_of_ble_eq_true rfl) (Nat.le_of_ble_eq_true rfl) ?_
  refine T_aload_n dX1_init_4 rfl ?_
  refine T_bipush dX1_init_5 bp_16 ?_
  refine T_newaI (N := 16) (SH' := (LAYC.take 11)) (V' := cv_18) (M' := cm_10) dX1_init_7 ar_int (by decide) (by decide) (Nat.le_of_ble_eq_true rfl) (Nat.le_of_ble_eq_true rfl) (Nat.le_of_ble_eq_true rfl) (Nat.le_of_ble_eq_true rfl) rfl rfl rfl ?_
  refine T_putR (V' := cv_19) dX1_init_9 clOK_X1 fl_X1_9 (Or.inr ⟨rfl, rfl, rfl, fw_X1_9⟩) (show (LAYC.take 11)[9]? = some (1, 0) from rfl) rfl (Or.inr ⟨_, rfl⟩) rfl ?_
  refine T_aload_n dX1_init_12 rfl ?_
  refine T_bipush dX1_init_13 bp_8 ?_
  refine T_newaI (N := 8) (SH' := (LAYC.take 12)) (V' := cv_20) (M' := cm_11) dX1_init_15 ar_int (by decide) (by decide) (Nat.le_of_ble_eq_true rfl) (Nat.le_of_ble_eq_true rfl) (Nat.le_of_ble_eq_true rfl) (Nat.le_of_ble_eq_true rfl) rfl rfl rfl ?_
  refine T_putR (V' := cv_21) dX1_init_17 clOK_X1 fl_X1_15 (Or.inr ⟨rfl, rfl, rfl, fw_X1_15⟩) (show (LAYC.take 12)[9]? = some (1, 0) from rfl) rfl (Or.inr ⟨_, rfl⟩) rfl ?_
  refine T_aload_n dX1_init_20 rfl ?_
  refine T_aload_n dX1_init_21 rfl ?_
  refine T_putR (V' := cv_22) dX1_init_22 clOK_X1 fl_X1_18 (Or.inr ⟨rfl, rfl, rfl, fw_X1_18⟩) (show (LAYC.take 12)[9]? = some (1, 0) from rfl) rfl (Or.inl ⟨_, rfl⟩) rfl ?_
  exact T_vret dX1_init_25 ⟨rfl, rfl, rfl, rfl⟩
set_option maxRecDepth 100000 in
set_option maxHeartbeats 4000000 in
theorem kc_4 : Cal yX0_init cX0_init 1 none 2 4 3 120 true [vR (some 15)] (LAYC.take 16) cv_30 cm_15 (eqp (vI 0) (LAYC.take 19) cv_36 cm_18) := by
  refine Cal.of (by decide +kernel) (Nat.le_of_ble_eq_true rfl) (fun _ => rfl) ?_
  show T RX0 cX0_init 1 none 2 4 3 120 true (eqp (vI 0) (LAYC.take 19) cv_36 cm_18) 0 [aR (some 15)] [] (LAYC.take 16) cv_30 cm_15 0 0
  refine T_aload_n dX0_init_0 rfl ?_
  refine T_objInit dX0_init_1 ml_X0_3 oi_inst oi_code (Nat.le_of_ble_eq_true rfl) (Nat.le_of_ble_eq_true rfl) ?_
  refine T_aload_n dX0_init_4 rfl ?_
  refine T_bipush dX0_init_5 bp_40 ?_
  refine T_newaI (N := 40) (SH' := (LAYC.take 17)) (V' := cv_31) (M' := cm_16) dX0_init_7 ar_int (by decide) (by decide) (Nat.le_of_ble_eq_true rfl) (Nat.le_of_ble_eq_true rfl) (Nat.le_of_ble_eq_true rfl) (Nat.le_of_ble_eq_true rfl) rfl rfl rfl ?_
  refine T_putR (V' := cv_32) dX0_init_9 clOK_X0 fl_X0_9 (Or.inr ⟨rfl, rfl, rfl, fw_X0_9⟩) (show (LAYC.take 17)[15]? = some (0, 0) from rfl) rfl (Or.inr ⟨_, rfl⟩) rfl ?_
  refine T_aload_n dX0_init_12 rfl ?_
  refine T_bipush dX0_init_13 bp_40 ?_
  refine T_newaI (N := 40) (SH' := (LAYC.take 18)) (V' := cv_33) (M' := cm_17) dX0_init_15 ar_int (by decide) (by decide) (Nat.le_of_ble_eq_true rfl) (Nat.le_of_ble_eq_true rfl) (Nat.le_of_ble_eq_true rfl) (Nat.le_of_ble_eq_true rfl) rfl rfl rfl ?_
  refine T_putR (V' := cv_34) dX0_init_17 clOK_X0 fl_X0_15 (Or.inr ⟨rfl, rfl, rfl, fw_X0_15⟩) (show (LAYC.take 18)[15]? = some (0, 0) from rfl) rfl (Or.inr ⟨_, rfl⟩) rfl ?_
  refine T_aload_n dX0_init_20 rfl ?_
  refine T_bipush dX0_init_21 bp_40 ?_
  refine T_newaI (N := 40) (SH' := (LAYC.take 19)) (V' := cv_35) (M' := cm_18) dX0_init_23 ar_int (by decide) (by decide) (Nat.le_of_ble_eq_true rfl) (Nat.le_of_ble_eq_true rfl) (Nat.le_of_ble_eq_true rfl) (Nat.le_of_ble_eq_true rfl) rfl rfl rfl ?_
  refine T_putR (V' := cv_36) dX0_init_25 clOK_X0 fl_X0_18 (Or.inr ⟨rfl, rfl, rfl, fw_X0_18⟩) (show (LAYC.take 19)[15]? = some (0, 0) from rfl) rfl (Or.inr ⟨_, rfl⟩) rfl ?_
  exact T_vret dX0_init_28 ⟨rfl, rfl, rfl, rfl⟩
set_option maxRecDepth 100000 in
set_option maxHeartbeats 4000000 in
theorem kc_5 : Cal yX1_init cX1_init 2 none 2 4 2 24 true [vR (some 21), vR (some 7)] (LAYC.take 22) cv_42 cm_21 (eqp (vI 0) (LAYC.take 24) cv_47 cm_23) := by
  refine Cal.of (by decide +kernel) (Nat.le_of_ble_eq_true rfl) (fun _ => rfl) ?_
  show T RX1 cX1_init 2 none 2 4 2 24 true (eqp (vI 0) (LAYC.take 24) cv_47 cm_23) 0 [aR (some 21), aR (some 7)] [] (LAYC.take 22) cv_42 cm_21 0 0
  refine T_aload_n dX1_init_0 rfl ?_
  refine T_objInit dX1_init_1 ml_X1_3 oi_inst oi_code (Nat.le_of_ble_eq_true rfl) (Nat.le_of_ble_eq_true rfl) ?_
  refine T_aload_n dX1_init_4 rfl ?_
  refine T_bipush dX1_init_5 bp_16 ?_
  refine T_newaI (N := 16) (SH' := (LAYC.take 23)) (V' := cv_43) (M' := cm_22) dX1_init_7 ar_int (by decide) (by decide) (Nat.le_of_ble_eq_true rfl) (Nat.le_of_ble_eq_true rfl) (Nat.le_of_ble_eq_true rfl) (Nat.le_of_ble_eq_true rfl) rfl rfl rfl ?_
  refine T_putR (V' := cv_44) dX1_init_9 clOK_X1 fl_X1_9 (Or.inr ⟨rfl, rfl, rfl, fw_X1_9⟩) (show (LAYC.take 23)[21]? = some (1, 0) from rfl) rfl (Or.inr ⟨_, rfl⟩) rfl ?_
  refine T_aload_n dX1_init_12 rfl ?_
  refine T_bipush dX1_init_13 bp_8 ?_
  refine T_newaI (N := 8) (SH' := (LAYC.take 24)) (V' := cv_45) (M' := cm_23) dX1_init_15 ar_int (by decide) (by decide) (Nat.le_of_ble_eq_true rfl) (Nat.le_of_ble_eq_true rfl) (Nat.le_of_ble_eq_true rfl) (Nat.le_of_ble_eq_true rfl) rfl rfl rfl ?_
  refine T_putR (V' := cv_46) dX1_init_17 clOK_X1 fl_X1_15 (Or.inr ⟨rfl, rfl, rfl, fw_X1_15⟩) (show (LAYC.take 24)[21]? = some (1, 0) from rfl) rfl (Or.inr ⟨_, rfl⟩) rfl ?_
  refine T_aload_n dX1_init_20 rfl ?_
  refine T_aload_n dX1_init_21 rfl ?_
  refine T_putR (V' := cv_47) dX1_init_22 clOK_X1 fl_X1_18 (Or.inr ⟨rfl, rfl, rfl, fw_X1_18⟩) (show (LAYC.take 24)[21]? = some (1, 0) from rfl) rfl (Or.inl ⟨_, rfl⟩) rfl ?_
  exact T_vret dX1_init_25 ⟨rfl, rfl, rfl, rfl⟩
set_option maxRecDepth 100000 in
set_option maxHeartbeats 4000000 in
theorem kc_6 : Cal yX6_init cX6_init 2 none 2 6 4 35 true [vR (some 19), vR (some 7)] (LAYC.take 20) cv_38 cm_19 (eqp (vI 0) (LAYC.take 24) cv_48 cm_23) := by
  refine Cal.of (by decide +kernel) (Nat.le_of_ble_eq_true rfl) (fun _ => rfl) ?_
  show T RX6 cX6_init 2 none 2 6 4 35 true (eqp (vI 0) (LAYC.take 24) cv_48 cm_23) 0 [aR (some 19), aR (some 7)] [] (LAYC.take 20) cv_38 cm_19 0 0
  refine T_aload_n dX6_init_0 rfl ?_
  refine T_objInit dX6_init_1 ml_X6_3 oi_inst oi_code (Nat.le_of_ble_eq_true rfl) (Nat.le_of_ble_eq_true rfl) ?_
  refine T_aload_n dX6_init_4 rfl ?_
  refine T_iconst dX6_init_5 ic_3 ?_
  refine T_newaI (N := 3) (SH' := (LAYC.take 21)) (V' := cv_39) (M' := cm_20) dX6_init_6 ar_int (by decide) (by decide) (Nat.le_of_ble_eq_true rfl) (Nat.le_of_ble_eq_true rfl) (Nat.le_of_ble_eq_true rfl) (Nat.le_of_ble_eq_true rfl) rfl rfl rfl ?_
  refine T_putR (V' := cv_40) dX6_init_8 clOK_X6 fl_X6_9 (Or.inr ⟨rfl, rfl, rfl, fw_X6_9⟩) (show (LAYC.take 21)[19]? = some (6, 0) from rfl) rfl (Or.inr ⟨_, rfl⟩) rfl ?_
  refine T_aload_n dX6_init_11 rfl ?_
  refine T_aload_n dX6_init_12 rfl ?_
  refine T_putR (V' := cv_41) dX6_init_13 clOK_X6 fl_X6_15 (Or.inr ⟨rfl, rfl, rfl, fw_X6_15⟩) (show (LAYC.take 21)[19]? = some (6, 0) from rfl) rfl (Or.inl ⟨_, rfl⟩) rfl ?_
  refine T_aload_n dX6_init_16 rfl ?_
  refine T_new (SH' := (LAYC.take 22)) (V' := cv_42) (M' := cm_21) dX6_init_17 clOK_X1 clTy_X1 ck_X6_19 in_X1 ini_X1 (Nat.le_of_ble_eq_true rfl) (Nat.le_of_ble_eq_true rfl) (Nat.le_of_ble_eq_true rfl) rfl rfl rfl ?_
  refine T_dup dX6_init_20 rfl ?_
  refine T_aload_n dX6_init_21 rfl ?_
  refine T_ci (mc' := 2) (ms' := 24) (as := [vR (some 7)]) (SH' := (LAYC.take 24)) (V' := cv_47) (M' := cm_23) dX6_init_22 cw_X1_init ml_X6_21 mi_X1_init rfl rfl (Nat.le_of_ble_eq_true rfl) (Nat.le_of_ble_eq_true rfl) (Nat.le_of_ble_eq_true rfl) (Nat.le_of_ble_eq_true rfl) rfl (Nat.le_of_ble_eq_true rfl) kc_5 ?_
  refine T_putR (V' := cv_48) dX6_init_25 clOK_X6 fl_X6_24 (Or.inr ⟨rfl, rfl, rfl, fw_X6_24⟩) (show (LAYC.take 24)[19]? = some (6, 0) from rfl) rfl (Or.inl ⟨_, rfl⟩) rfl ?_
  exact T_vret dX6_init_28 ⟨rfl, rfl, rfl, rfl⟩
set_option maxRecDepth 100000 in
set_option maxHeartbeats 4000000 in
theorem kc_7 : Cal yX5_init cX5_init 2 none 2 4 1 40 true [vR (some 26), vI (nI 40)] (LAYC.take 27) cv_54 cm_27 (eqp (vI 0) (LAYC.take 28) cv_56 cm_29) := by
  refine Cal.of (by decide +kernel) (Nat.le_of_ble_eq_true rfl) (fun _ => rfl) ?_
  show T RX5 cX5_init 2 none 2 4 1 40 true (eqp (vI 0) (LAYC.take 28) cv_56 cm_29) 0 [aR (some 26), aI (nI 40)] [] (LAYC.take 27) cv_54 cm_27 0 0
  refine T_aload_n dX5_init_0 rfl ?_
  refine T_objInit dX5_init_1 ml_X5_3 oi_inst oi_code (Nat.le_of_ble_eq_true rfl) (Nat.le_of_ble_eq_true rfl) ?_
  refine T_aload_n dX5_init_4 rfl ?_
  refine T_iconst dX5_init_5 ic_m1 ?_
  refine T_putI (M' := cm_28) dX5_init_6 clOK_X5 fl_X5_9 (Or.inl rfl) (show (LAYC.take 27)[26]? = some (5, 0) from rfl) rfl rfl rfl ?_
  refine T_aload_n dX5_init_9 rfl ?_
  refine T_iconst dX5_init_10 ic_0 ?_
  refine T_iload_n dX5_init_11 rfl ?_
  refine T_csi (as := [vI 0, vI (nI 40)]) dX5_init_12 cw_J9_max_7cf53 ml_X5_15 mt_J9_max_7cf53 rfl (Nat.le_of_ble_eq_true rfl) (Nat.le_of_ble_eq_true rfl) (m_J9_max_7cf53 (LAYC.take 27) cv_54 cm_28 0 (nI 40) (nI 40) (by decide)) ?_
  refine T_newaI (N := 40) (SH' := (LAYC.take 28)) (V' := cv_55) (M' := cm_29) dX5_init_15 ar_int (by decide) (by decide) (Nat.le_of_ble_eq_true rfl) (Nat.le_of_ble_eq_true rfl) (Nat.le_of_ble_eq_true rfl) (Nat.le_of_ble_eq_true rfl) rfl rfl rfl ?_
  refine T_putR (V' := cv_56) dX5_init_17 clOK_X5 fl_X5_21 (Or.inr ⟨rfl, rfl, rfl, fw_X5_21⟩) (show (LAYC.take 28)[26]? = some (5, 0) from rfl) rfl (Or.inr ⟨_, rfl⟩) rfl ?_
  exact T_vret dX5_init_20 ⟨rfl, rfl, rfl, rfl⟩
set_option maxRecDepth 100000 in
set_option maxHeartbeats 4000000 in
theorem kc_8 : Cal yX5_init cX5_init 2 none 2 4 1 40 true [vR (some 28), vI (nI 40)] (LAYC.take 29) cv_58 cm_30 (eqp (vI 0) (LAYC.take 30) cv_60 cm_32) := by
  refine Cal.of (by decide +kernel) (Nat.le_of_ble_eq_true rfl) (fun _ => rfl) ?_
  show T RX5 cX5_init 2 none 2 4 1 40 true (eqp (vI 0) (LAYC.take 30) cv_60 cm_32) 0 [aR (some 28), aI (nI 40)] [] (LAYC.take 29) cv_58 cm_30 0 0
  refine T_aload_n dX5_init_0 rfl ?_
  refine T_objInit dX5_init_1 ml_X5_3 oi_inst oi_code (Nat.le_of_ble_eq_true rfl) (Nat.le_of_ble_eq_true rfl) ?_
  refine T_aload_n dX5_init_4 rfl ?_
  refine T_iconst dX5_init_5 ic_m1 ?_
  refine T_putI (M' := cm_31) dX5_init_6 clOK_X5 fl_X5_9 (Or.inl rfl) (show (LAYC.take 29)[28]? = some (5, 0) from rfl) rfl rfl rfl ?_
  refine T_aload_n dX5_init_9 rfl ?_
  refine T_iconst dX5_init_10 ic_0 ?_
  refine T_iload_n dX5_init_11 rfl ?_
  refine T_csi (as := [vI 0, vI (nI 40)]) dX5_init_12 cw_J9_max_7cf53 ml_X5_15 mt_J9_max_7cf53 rfl (Nat.le_of_ble_eq_true rfl) (Nat.le_of_ble_eq_true rfl) (m_J9_max_7cf53 (LAYC.take 29) cv_58 cm_31 0 (nI 40) (nI 40) (by decide)) ?_
  refine T_newaI (N := 40) (SH' := (LAYC.take 30)) (V' := cv_59) (M' := cm_32) dX5_init_15 ar_int (by decide) (by decide) (Nat.le_of_ble_eq_true rfl) (Nat.le_of_ble_eq_true rfl) (Nat.le_of_ble_eq_true rfl) (Nat.le_of_ble_eq_true rfl) rfl rfl rfl ?_
  refine T_putR (V' := cv_60) dX5_init_17 clOK_X5 fl_X5_21 (Or.inr ⟨rfl, rfl, rfl, fw_X5_21⟩) (show (LAYC.take 30)[28]? = some (5, 0) from rfl) rfl (Or.inr ⟨_, rfl⟩) rfl ?_
  exact T_vret dX5_init_20 ⟨rfl, rfl, rfl, rfl⟩
set_option maxRecDepth 100000 in
set_option maxHeartbeats 4000000 in
theorem kc_9 : Cal yX5_init cX5_init 2 none 2 4 1 40 true [vR (some 30), vI (nI 40)] (LAYC.take 31) cv_62 cm_33 (eqp (vI 0) (LAYC.take 32) cv_64 cm_35) := by
  refine Cal.of (by decide +kernel) (Nat.le_of_ble_eq_true rfl) (fun _ => rfl) ?_
  show T RX5 cX5_init 2 none 2 4 1 40 true (eqp (vI 0) (LAYC.take 32) cv_64 cm_35) 0 [aR (some 30), aI (nI 40)] [] (LAYC.take 31) cv_62 cm_33 0 0
  refine T_aload_n dX5_init_0 rfl ?_
  refine T_objInit dX5_init_1 ml_X5_3 oi_inst oi_code (Nat.le_of_ble_eq_true rfl) (Nat.le_of_ble_eq_true rfl) ?_
  refine T_aload_n dX5_init_4 rfl ?_
  refine T_iconst dX5_init_5 ic_m1 ?_
  refine T_putI (M' := cm_34) dX5_init_6 clOK_X5 fl_X5_9 (Or.inl rfl) (show (LAYC.take 31)[30]? = some (5, 0) from rfl) rfl rfl rfl ?_
  refine T_aload_n dX5_init_9 rfl ?_
  refine T_iconst dX5_init_10 ic_0 ?_
  refine T_iload_n dX5_init_11 rfl ?_
  refine T_csi (as := [vI 0, vI (nI 40)]) dX5_init_12 cw_J9_max_7cf53 ml_X5_15 mt_J9_max_7cf53 rfl (Nat.le_of_ble_eq_true rfl) (Nat.le_of_ble_eq_true rfl) (m_J9_max_7cf53 (LAYC.take 31) cv_62 cm_34 0 (nI 40) (nI 40) (by decide)) ?_
  refine T_newaI (N := 40) (SH' := (LAYC.take 32)) (V' := cv_63) (M' := cm_35) dX5_init_15 ar_int (by decide) (by decide) (Nat.le_of_ble_eq_true rfl) (Nat.le_of_ble_eq_true rfl) (Nat.le_of_ble_eq_true rfl) (Nat.le_of_ble_eq_true rfl) rfl rfl rfl ?_
  refine T_putR (V' := cv_64) dX5_init_17 clOK_X5 fl_X5_21 (Or.inr ⟨rfl, rfl, rfl, fw_X5_21⟩) (show (LAYC.take 32)[30]? = some (5, 0) from rfl) rfl (Or.inr ⟨_, rfl⟩) rfl ?_
  exact T_vret dX5_init_20 ⟨rfl, rfl, rfl, rfl⟩
set_option maxRecDepth 100000 in
set_option maxHeartbeats 4000000 in
theorem kc_10 : Cal yX5_init cX5_init 2 none 2 4 1 40 true [vR (some 32), vI (nI 40)] (LAYC.take 33) cv_66 cm_36 (eqp (vI 0) (LAYC.take 34) cv_68 cm_38) := by
  refine Cal.of (by decide +kernel) (Nat.le_of_ble_eq_true rfl) (fun _ => rfl) ?_
  show T RX5 cX5_init 2 none 2 4 1 40 true (eqp (vI 0) (LAYC.take 34) cv_68 cm_38) 0 [aR (some 32), aI (nI 40)] [] (LAYC.take 33) cv_66 cm_36 0 0
  refine T_aload_n dX5_init_0 rfl ?_
  refine T_objInit dX5_init_1 ml_X5_3 oi_inst oi_code (Nat.le_of_ble_eq_true rfl) (Nat.le_of_ble_eq_true rfl) ?_
  refine T_aload_n dX5_init_4 rfl ?_
  refine T_iconst dX5_init_5 ic_m1 ?_
  refine T_putI (M' := cm_37) dX5_init_6 clOK_X5 fl_X5_9 (Or.inl rfl) (show (LAYC.take 33)[32]? = some (5, 0) from rfl) rfl rfl rfl ?_
  refine T_aload_n dX5_init_9 rfl ?_
  refine T_iconst dX5_init_10 ic_0 ?_
  refine T_iload_n dX5_init_11 rfl ?_
  refine T_csi (as := [vI 0, vI (nI 40)]) dX5_init_12 cw_J9_max_7cf53 ml_X5_15 mt_J9_max_7cf53 rfl (Nat.le_of_ble_eq_true rfl) (Nat.le_of_ble_eq_true rfl) (m_J9_max_7cf53 (LAYC.take 33) cv_66 cm_37 0 (nI 40) (nI 40) (by decide)) ?_
  refine T_newaI (N := 40) (SH' := (LAYC.take 34)) (V' := cv_67) (M' := cm_38) dX5_init_15 ar_int (by decide) (by decide) (Nat.le_of_ble_eq_true rfl) (Nat.le_of_ble_eq_true rfl) (Nat.le_of_ble_eq_true rfl) (Nat.le_of_ble_eq_true rfl) rfl rfl rfl ?_
  refine T_putR (V' := cv_68) dX5_init_17 clOK_X5 fl_X5_21 (Or.inr ⟨rfl, rfl, rfl, fw_X5_21⟩) (show (LAYC.take 34)[32]? = some (5, 0) from rfl) rfl (Or.inr ⟨_, rfl⟩) rfl ?_
  exact T_vret dX5_init_20 ⟨rfl, rfl, rfl, rfl⟩
set_option maxRecDepth 100000 in
set_option maxHeartbeats 4000000 in
theorem kc_11 : Cal yX5_init cX5_init 2 none 2 4 1 40 true [vR (some 34), vI (nI 40)] (LAYC.take 35) cv_70 cm_39 (eqp (vI 0) (LAYC.take 36) cv_72 cm_41) := by
  refine Cal.of (by decide +kernel) (Nat.le_of_ble_eq_true rfl) (fun _ => rfl) ?_
  show T RX5 cX5_init 2 none 2 4 1 40 true (eqp (vI 0) (LAYC.take 36) cv_72 cm_41) 0 [aR (some 34), aI (nI 40)] [] (LAYC.take 35) cv_70 cm_39 0 0
  refine T_aload_n dX5_init_0 rfl ?_
  refine T_objInit dX5_init_1 ml_X5_3 oi_inst oi_code (Nat.le_of_ble_eq_true rfl) (Nat.le_of_ble_eq_true rfl) ?_
  refine T_aload_n dX5_init_4 rfl ?_
  refine T_iconst dX5_init_5 ic_m1 ?_
  refine T_putI (M' := cm_40) dX5_init_6 clOK_X5 fl_X5_9 (Or.inl rfl) (show (LAYC.take 35)[34]? = some (5, 0) from rfl) rfl rfl rfl ?_
  refine T_aload_n dX5_init_9 rfl ?_
  refine T_iconst dX5_init_10 ic_0 ?_
  refine T_iload_n dX5_init_11 rfl ?_
  refine T_csi (as := [vI 0, vI (nI 40)]) dX5_init_12 cw_J9_max_7cf53 ml_X5_15 mt_J9_max_7cf53 rfl (Nat.le_of_ble_eq_true rfl) (Nat.le_of_ble_eq_true rfl) (m_J9_max_7cf53 (LAYC.take 35) cv_70 cm_40 0 (nI 40) (nI 40) (by decide)) ?_
  refine T_newaI (N := 40) (SH' := (LAYC.take 36)) (V' := cv_71) (M' := cm_41) dX5_init_15 ar_int (by decide) (by decide) (Nat.le_of_ble_eq_true rfl) (Nat.le_of_ble_eq_true rfl) (Nat.le_of_ble_eq_true rfl) (Nat.le_of_ble_eq_true rfl) rfl rfl rfl ?_
  refine T_putR (V' := cv_72) dX5_init_17 clOK_X5 fl_X5_21 (Or.inr ⟨rfl, rfl, rfl, fw_X5_21⟩) (show (LAYC.take 36)[34]? = some (5, 0) from rfl) rfl (Or.inr ⟨_, rfl⟩) rfl ?_
  exact T_vret dX5_init_20 ⟨rfl, rfl, rfl, rfl⟩
set_option maxRecDepth 100000 in
set_option maxHeartbeats 4000000 in
theorem kc_12 : Cal yX5_init cX5_init 2 none 2 4 1 40 true [vR (some 36), vI (nI 40)] (LAYC.take 37) cv_74 cm_42 (eqp (vI 0) (LAYC.take 38) cv_76 cm_44) := by
  refine Cal.of (by decide +kernel) (Nat.le_of_ble_eq_true rfl) (fun _ => rfl) ?_
  show T RX5 cX5_init 2 none 2 4 1 40 true (eqp (vI 0) (LAYC.take 38) cv_76 cm_44) 0 [aR (some 36), aI (nI 40)] [] (LAYC.take 37) cv_74 cm_42 0 0
  refine T_aload_n dX5_init_0 rfl ?_
  refine T_objInit dX5_init_1 ml_X5_3 oi_inst oi_code (Nat.le_of_ble_eq_true rfl) (Nat.le_of_ble_eq_true rfl) ?_
  refine T_aload_n dX5_init_4 rfl ?_
  refine T_iconst dX5_init_5 ic_m1 ?_
  refine T_putI (M' := cm_43) dX5_init_6 clOK_X5 fl_X5_9 (Or.inl rfl) (show (LAYC.take 37)[36]? = some (5, 0) from rfl) rfl rfl rfl ?_
  refine T_aload_n dX5_init_9 rfl ?_
  refine T_iconst dX5_init_10 ic_0 ?_
  refine T_iload_n dX5_init_11 rfl ?_
  refine T_csi (as := [vI 0, vI (nI 40)]) dX5_init_12 cw_J9_max_7cf53 ml_X5_15 mt_J9_max_7cf53 rfl (Nat.le_of_ble_eq_true rfl) (Nat.le_of_ble_eq_true rfl) (m_J9_max_7cf53 (LAYC.take 37) cv_74 cm_43 0 (nI 40) (nI 40) (by decide)) ?_
  refine T_newaI (N := 40) (SH' := (LAYC.take 38)) (V' := cv_75) (M' := cm_44) dX5_init_15 ar_int (by decide) (by decide) (Nat.le_of_ble_eq_true rfl) (Nat.le_of_ble_eq_true rfl) (Nat.le_of_ble_eq_true rfl) (Nat.le_of_ble_eq_true rfl) rfl rfl rfl ?_
  refine T_putR (V' := cv_76) dX5_init_17 clOK_X5 fl_X5_21 (Or.inr ⟨rfl, rfl, rfl, fw_X5_21⟩) (show (LAYC.take 38)[36]? = some (5, 0) from rfl) rfl (Or.inr ⟨_, rfl⟩) rfl ?_
  exact T_vret dX5_init_20 ⟨rfl, rfl, rfl, rfl⟩
set_option maxRecDepth 100000 in
set_option maxHeartbeats 4000000 in
theorem kc_13 : Cal yX5_init cX5_init 2 none 2 4 1 60 true [vR (some 38), vI (nI 60)] (LAYC.take 39) cv_78 cm_45 (eqp (vI 0) (LAYC.take 40) cv_80 cm_47) := by
  refine Cal.of (by decide +kernel) (Nat.le_of_ble_eq_true rfl) (fun _ => rfl) ?_
  show T RX5 cX5_init 2 none 2 4 1 60 true (eqp (vI 0) (LAYC.take 40) cv_80 cm_47) 0 [aR (some 38), aI (nI 60)] [] (LAYC.take 39) cv_78 cm_45 0 0
  refine T_aload_n dX5_init_0 rfl ?_
  refine T_objInit dX5_init_1 ml_X5_3 oi_inst oi_code (Nat.le_of_ble_eq_true rfl) (Nat.le_of_ble_eq_true rfl) ?_
  refine T_aload_n dX5_init_4 rfl ?_
  refine T_iconst dX5_init_5 ic_m1 ?_
  refine T_putI (M' := cm_46) dX5_init_6 clOK_X5 fl_X5_9 (Or.inl rfl) (show (LAYC.take 39)[38]? = some (5, 0) from rfl) rfl rfl rfl ?_
  refine T_aload_n dX5_init_9 rfl ?_
  refine T_iconst dX5_init_10 ic_0 ?_
  refine T_iload_n dX5_init_11 rfl ?_
  refine T_csi (as := [vI 0, vI (nI 60)]) dX5_init_12 cw_J9_max_7cf53 ml_X5_15 mt_J9_max_7cf53 rfl (Nat.le_of_ble_eq_true rfl) (Nat.le_of_ble_eq_true rfl) (m_J9_max_7cf53 (LAYC.take 39) cv_78 cm_46 0 (nI 60) (nI 60) (by decide)) ?_
  refine T_newaI (N := 60) (SH' := (LAYC.take 40)) (V' := cv_79) (M' := cm_47) dX5_init_15 ar_int (by decide) (by decide) (Nat.le_of_ble_eq_true rfl) (Nat.le_of_ble_eq_true rfl) (Nat.le_of_ble_eq_true rfl) (Nat.le_of_ble_eq_true rfl) rfl rfl rfl ?_
  refine T_putR (V' := cv_80) dX5_init_17 clOK_X5 fl_X5_21 (Or.inr ⟨rfl, rfl, rfl, fw_X5_21⟩) (show (LAYC.take 40)[38]? = some (5, 0) from rfl) rfl (Or.inr ⟨_, rfl⟩) rfl ?_
  exact T_vret dX5_init_20 ⟨rfl, rfl, rfl, rfl⟩
set_option maxRecDepth 100000 in
set_option maxHeartbeats 4000000 in
theorem kc_14 : Cal yX5_init cX5_init 2 none 2 4 1 60 true [vR (some 40), vI (nI 60)] (LAYC.take 41) cv_82 cm_48 (eqp (vI 0) (LAYC.take 42) cv_84 cm_50) := by
  refine Cal.of (by decide +kernel) (Nat.le_of_ble_eq_true rfl) (fun _ => rfl) ?_
  show T RX5 cX5_init 2 none 2 4 1 60 true (eqp (vI 0) (LAYC.take 42) cv_84 cm_50) 0 [aR (some 40), aI (nI 60)] [] (LAYC.take 41) cv_82 cm_48 0 0
  refine T_aload_n dX5_init_0 rfl ?_
  refine T_objInit dX5_init_1 ml_X5_3 oi_inst oi_code (Nat.le_of_ble_eq_true rfl) (Nat.le_of_ble_eq_true rfl) ?_
  refine T_aload_n dX5_init_4 rfl ?_
  refine T_iconst dX5_init_5 ic_m1 ?_
  refine T_putI (M' := cm_49) dX5_init_6 clOK_X5 fl_X5_9 (Or.inl rfl) (show (LAYC.take 41)[40]? = some (5, 0) from rfl) rfl rfl rfl ?_
  refine T_aload_n dX5_init_9 rfl ?_
  refine T_iconst dX5_init_10 ic_0 ?_
  refine T_iload_n dX5_init_11 rfl ?_
  refine T_csi (as := [vI 0, vI (nI 60)]) dX5_init_12 cw_J9_max_7cf53 ml_X5_15 mt_J9_max_7cf53 rfl (Nat.le_of_ble_eq_true rfl) (Nat.le_of_ble_eq_true rfl) (m_J9_max_7cf53 (LAYC.take 41) cv_82 cm_49 0 (nI 60) (nI 60) (by decide)) ?_
  refine T_newaI (N := 60) (SH' := (LAYC.take 42)) (V' := cv_83) (M' := cm_50) dX5_init_15 ar_int (by decide) (by decide) (Nat.le_of_ble_eq_true rfl) (Nat.le_of_ble_eq_true rfl) (Nat.le_of_ble_eq_true rfl) (Nat.le_of_ble_eq_true rfl) rfl rfl rfl ?_
  refine T_putR (V' := cv_84) dX5_init_17 clOK_X5 fl_X5_21 (Or.inr ⟨rfl, rfl, rfl, fw_X5_21⟩) (show (LAYC.take 42)[40]? = some (5, 0) from rfl) rfl (Or.inr ⟨_, rfl⟩) rfl ?_
  exact T_vret dX5_init_20 ⟨rfl, rfl, rfl, rfl⟩
set_option maxRecDepth 100000 in
set_option maxHeartbeats 4000000 in
theorem kc_15 : Cal yX5_init cX5_init 2 none 2 4 1 60 true [vR (some 42), vI (nI 60)] (LAYC.take 43) cv_86 cm_51 (eqp (vI 0) (LAYC.take 44) cv_88 cm_53) := by
  refine Cal.of (by decide +kernel) (Nat.le_of_ble_eq_true rfl) (fun _ => rfl) ?_
  show T RX5 cX5_init 2 none 2 4 1 60 true (eqp (vI 0) (LAYC.take 44) cv_88 cm_53) 0 [aR (some 42), aI (nI 60)] [] (LAYC.take 43) cv_86 cm_51 0 0
  refine T_aload_n dX5_init_0 rfl ?_
  refine T_objInit dX5_init_1 ml_X5_3 oi_inst oi_code (Nat.le_of_ble_eq_true rfl) (Nat.le_of_ble_eq_true rfl) ?_
  refine T_aload_n dX5_init_4 rfl ?_
  refine T_iconst dX5_init_5 ic_m1 ?_
  refine T_putI (M' := cm_52) dX5_init_6 clOK_X5 fl_X5_9 (Or.inl rfl) (show (LAYC.take 43)[42]? = some (5, 0) from rfl) rfl rfl rfl ?_
  refine T_aload_n dX5_init_9 rfl ?_
  refine T_iconst dX5_init_10 ic_0 ?_
  refine T_iload_n dX5_init_11 rfl ?_
  refine T_csi (as := [vI 0, vI (nI 60)]) dX5_init_12 cw_J9_max_7cf53 ml_X5_15 mt_J9_max_7cf53 rfl (Nat.le_of_ble_eq_true rfl) (Nat.le_of_ble_eq_true rfl) (m_J9_max_7cf53 (LAYC.take 43) cv_86 cm_52 0 (nI 60) (nI 60) (by decide)) ?_
  refine T_newaI (N := 60) (SH' := (LAYC.take 44)) (V' := cv_87) (M' := cm_53) dX5_init_15 ar_int (by decide) (by decide) (Nat.le_of_ble_eq_true rfl) (Nat.le_of_ble_eq_true rfl) (Nat.le_of_ble_eq_true rfl) (Nat.le_of_ble_eq_true rfl) rfl rfl rfl ?_
  refine T_putR (V' := cv_88) dX5_init_17 clOK_X5 fl_X5_21 (Or.inr ⟨rfl, rfl, rfl, fw_X5_21⟩) (show (LAYC.take 44)[42]? = some (5, 0) from rfl) rfl (Or.inr ⟨_, rfl⟩) rfl ?_
  exact T_vret dX5_init_20 ⟨rfl, rfl, rfl, rfl⟩
set_option maxRecDepth 100000 in
set_option maxHeartbeats 4000000 in
theorem kc_16 : Cal yX5_init cX5_init 2 none 2 4 1 60 true [vR (some 44), vI (nI 60)] (LAYC.take 45) cv_90 cm_54 (eqp (vI 0) (LAYC.take 46) cv_92 cm_56) := by
  refine Cal.of (by decide +kernel) (Nat.le_of_ble_eq_true rfl) (fun _ => rfl) ?_
  show T RX5 cX5_init 2 none 2 4 1 60 true (eqp (vI 0) (LAYC.take 46) cv_92 cm_56) 0 [aR (some 44), aI (nI 60)] [] (LAYC.take 45) cv_90 cm_54 0 0
  refine T_aload_n dX5_init_0 rfl ?_
  refine T_objInit dX5_init_1 ml_X5_3 oi_inst oi_code (Nat.le_of_ble_eq_true rfl) (Nat.le_of_ble_eq_true rfl) ?_
  refine T_aload_n dX5_init_4 rfl ?_
  refine T_iconst dX5_init_5 ic_m1 ?_
  refine T_putI (M' := cm_55) dX5_init_6 clOK_X5 fl_X5_9 (Or.inl rfl) (show (LAYC.take 45)[44]? = some (5, 0) from rfl) rfl rfl rfl ?_
  refine T_aload_n dX5_init_9 rfl ?_
  refine T_iconst dX5_init_10 ic_0 ?_
  refine T_iload_n dX5_init_11 rfl ?_
  refine T_csi (as := [vI 0, vI (nI 60)]) dX5_init_12 cw_J9_max_7cf53 ml_X5_15 mt_J9_max_7cf53 rfl (Nat.le_of_ble_eq_true rfl) (Nat.le_of_ble_eq_true rfl) (m_J9_max_7cf53 (LAYC.take 45) cv_90 cm_55 0 (nI 60) (nI 60) (by decide)) ?_
  refine T_newaI (N := 60) (SH' := (LAYC.take 46)) (V' := cv_91) (M' := cm_56) dX5_init_15 ar_int (by decide) (by decide) (Nat.le_of_ble_eq_true rfl) (Nat.le_of_ble_eq_true rfl) (Nat.le_of_ble_eq_true rfl) (Nat.le_of_ble_eq_true rfl) rfl rfl rfl ?_
  refine T_putR (V' := cv_92) dX5_init_17 clOK_X5 fl_X5_21 (Or.inr ⟨rfl, rfl, rfl, fw_X5_21⟩) (show (LAYC.take 46)[44]? = some (5, 0) from rfl) rfl (Or.inr ⟨_, rfl⟩) rfl ?_
  exact T_vret dX5_init_20 ⟨rfl, rfl, rfl, rfl⟩
set_option maxRecDepth 100000 in
set_option maxHeartbeats 4000000 in
theorem kc_17 : Cal yX1_init cX1_init 2 none 2 4 2 24 true [vR (some 46), vR (some 7)] (LAYC.take 47) cv_94 cm_57 (eqp (vI 0) (LAYC.take 49) cv_99 cm_59) := by
  refine Cal.of (by decide +kernel) (Nat.le_of_ble_eq_true rfl) (fun _ => rfl) ?_
  show T RX1 cX1_init 2 none 2 4 2 24 true (eqp (vI 0) (LAYC.take 49) cv_99 cm_59) 0 [aR (some 46), aR (some 7)] [] (LAYC.take 47) cv_94 cm_57 0 0
  refine T_aload_n dX1_init_0 rfl ?_
  refine T_objInit dX1_init_1 ml_X1_3 oi_inst oi_code (Nat.le_of_ble_eq_true rfl) (Nat.le_of_ble_eq_true rfl) ?_
  refine T_aload_n dX1_init_4 rfl ?_
  refine T_bipush dX1_init_5 bp_16 ?_
  refine T_newaI (N := 16) (SH' := (LAYC.take 48)) (V' := cv_95) (M' := cm_58) dX1_init_7 ar_int (by decide) (by decide) (Nat.le_of_ble_eq_true rfl) (Nat.le_of_ble_eq_true rfl) (Nat.le_of_ble_eq_true rfl) (Nat.le_of_ble_eq_true rfl) rfl rfl rfl ?_
  refine T_putR (V' := cv_96) dX1_init_9 clOK_X1 fl_X1_9 (Or.inr ⟨rfl, rfl, rfl, fw_X1_9⟩) (show (LAYC.take 48)[46]? = some (1, 0) from rfl) rfl (Or.inr ⟨_, rfl⟩) rfl ?_
  refine T_aload_n dX1_init_12 rfl ?_
  refine T_bipush dX1_init_13 bp_8 ?_
  refine T_newaI (N := 8) (SH' := (LAYC.take 49)) (V' := cv_97) (M' := cm_59) dX1_init_15 ar_int (by decide) (by decide) (Nat.le_of_ble_eq_true rfl) (Nat.le_of_ble_eq_true rfl) (Nat.le_of_ble_eq_true rfl) (Nat.le_of_ble_eq_true rfl) rfl rfl rfl ?_
  refine T_putR (V' := cv_98) dX1_init_17 clOK_X1 fl_X1_15 (Or.inr ⟨rfl, rfl, rfl, fw_X1_15⟩) (show (LAYC.take 49)[46]? = some (1, 0) from rfl) rfl (Or.inr ⟨_, rfl⟩) rfl ?_
  refine T_aload_n dX1_init_20 rfl ?_
  refine T_aload_n dX1_init_21 rfl ?_
  refine T_putR (V' := cv_99) dX1_init_22 clOK_X1 fl_X1_18 (Or.inr ⟨rfl, rfl, rfl, fw_X1_18⟩) (show (LAYC.take 49)[46]? = some (1, 0) from rfl) rfl (Or.inl ⟨_, rfl⟩) rfl ?_
  exact T_vret dX1_init_25 ⟨rfl, rfl, rfl, rfl⟩
set_option maxRecDepth 100000 in
set_option maxHeartbeats 4000000 in
theorem kc_18 : Cal yX1_init cX1_init 2 none 2 4 2 24 true [vR (some 49), vR (some 7)] (LAYC.take 50) cv_101 cm_60 (eqp (vI 0) (LAYC.take 52) cv_106 cm_62) := by
  refine Cal.of (by decide +kernel) (Nat.le_of_ble_eq_true rfl) (fun _ => rfl) ?_
  show T RX1 cX1_init 2 none 2 4 2 24 true (eqp (vI 0) (LAYC.take 52) cv_106 cm_62) 0 [aR (some 49), aR (some 7)] [] (LAYC.take 50) cv_101 cm_60 0 0
  refine T_aload_n dX1_init_0 rfl ?_
  refine T_objInit dX1_init_1 ml_X1_3 oi_inst oi_code (Nat.le_of_ble_eq_true rfl) (Nat.le_of_ble_eq_true rfl) ?_
  refine T_aload_n dX1_init_4 rfl ?_
  refine T_bipush dX1_init_5 bp_16 ?_
  refine T_newaI (N := 16) (SH' := (LAYC.take 51)) (V' := cv_102) (M' := cm_61) dX1_init_7 ar_int (by decide) (by decide) (Nat.le_of_ble_eq_true rfl) (Nat.le_of_ble_eq_true rfl) (Nat.le_of_ble_eq_true rfl) (Nat.le_of_ble_eq_true rfl) rfl rfl rfl ?_
  refine T_putR (V' := cv_103) dX1_init_9 clOK_X1 fl_X1_9 (Or.inr ⟨rfl, rfl, rfl, fw_X1_9⟩) (show (LAYC.take 51)[49]? = some (1, 0) from rfl) rfl (Or.inr ⟨_, rfl⟩) rfl ?_
  refine T_aload_n dX1_init_12 rfl ?_
  refine T_bipush dX1_init_13 bp_8 ?_
  refine T_newaI (N := 8) (SH' := (LAYC.take 52)) (V' := cv_104) (M' := cm_62) dX1_init_15 ar_int (by decide) (by decide) (Nat.le_of_ble_eq_true rfl) (Nat.le_of_ble_eq_true rfl) (Nat.le_of_ble_eq_true rfl) (Nat.le_of_ble_eq_true rfl) rfl rfl rfl ?_
  refine T_putR (V' := cv_105) dX1_init_17 clOK_X1 fl_X1_15 (Or.inr ⟨rfl, rfl, rfl, fw_X1_15⟩) (show (LAYC.take 52)[49]? = some (1, 0) from rfl) rfl (Or.inr ⟨_, rfl⟩) rfl ?_
  refine T_aload_n dX1_init_20 rfl ?_
  refine T_aload_n dX1_init_21 rfl ?_
  refine T_putR (V' := cv_106) dX1_init_22 clOK_X1 fl_X1_18 (Or.inr ⟨rfl, rfl, rfl, fw_X1_18⟩) (show (LAYC.take 52)[49]? = some (1, 0) from rfl) rfl (Or.inl ⟨_, rfl⟩) rfl ?_
  exact T_vret dX1_init_25 ⟨rfl, rfl, rfl, rfl⟩
set_option maxRecDepth 100000 in
set_option maxHeartbeats 4000000 in
theorem kc_19 : Cal yX1_init cX1_init 2 none 2 4 2 24 true [vR (some 52), vR (some 7)] (LAYC.take 53) cv_108 cm_63 (eqp (vI 0) (LAYC.take 55) cv_113 cm_65) := by
  refine Cal.of (by decide +kernel) (Nat.le_of_ble_eq_true rfl) (fun _ => rfl) ?_
  show T RX1 cX1_init 2 none 2 4 2 24 true (eqp (vI 0) (LAYC.take 55) cv_113 cm_65) 0 [aR (some 52), aR (some 7)] [] (LAYC.take 53) cv_108 cm_63 0 0
  refine T_aload_n dX1_init_0 rfl ?_
  refine T_objInit dX1_init_1 ml_X1_3 oi_inst oi_code (Nat.le_of_ble_eq_true rfl) (Nat.le_of_ble_eq_true rfl) ?_
  refine T_aload_n dX1_init_4 rfl ?_
  refine T_bipush dX1_init_5 bp_16 ?_
  refine T_newaI (N := 16) (SH' := (LAYC.take 54)) (V' := cv_109) (M' := cm_64) dX1_init_7 ar_int (by decide) (by decide) (Nat.le_of_ble_eq_true rfl) (Nat.le_of_ble_eq_true rfl) (Nat.le_of_ble_eq_true rfl) (Nat.le_of_ble_eq_true rfl) rfl rfl rfl ?_
  refine T_putR (V' := cv_110) dX1_init_9 clOK_X1 fl_X1_9 (Or.inr ⟨rfl, rfl, rfl, fw_X1_9⟩) (show (LAYC.take 54)[52]? = some (1, 0) from rfl) rfl (Or.inr ⟨_, rfl⟩) rfl ?_
  refine T_aload_n dX1_init_12 rfl ?_
  refine T_bipush dX1_init_13 bp_8 ?_
  refine T_newaI (N := 8) (SH' := (LAYC.take 55)) (V' := cv_111) (M' := cm_65) dX1_init_15 ar_int (by decide) (by decide) (Nat.le_of_ble_eq_true rfl) (Nat.le_of_ble_eq_true rfl) (Nat.le_of_ble_eq_true rfl) (Nat.le_of_ble_eq_true rfl) rfl rfl rfl ?_
  refine T_putR (V' := cv_112) dX1_init_17 clOK_X1 fl_X1_15 (Or.inr ⟨rfl, rfl, rfl, fw_X1_15⟩) (show (LAYC.take 55)[52]? = some (1, 0) from rfl) rfl (Or.inr ⟨_, rfl⟩) rfl ?_
  refine T_aload_n dX1_init_20 rfl ?_
  refine T_aload_n dX1_init_21 rfl ?_
  refine T_putR (V' := cv_113) dX1_init_22 clOK_X1 fl_X1_18 (Or.inr ⟨rfl, rfl, rfl, fw_X1_18⟩) (show (LAYC.take 55)[52]? = some (1, 0) from rfl) rfl (Or.inl ⟨_, rfl⟩) rfl ?_
  exact T_vret dX1_init_25 ⟨rfl, rfl, rfl, rfl⟩
set_option maxRecDepth 100000 in
set_option maxHeartbeats 4000000 in
theorem kc_20 : Cal yX3_init cX3_init 3 none 2 4 0 0 true [vR (some 55), vI 0, vR (some 7)] (LAYC.take 56) cv_115 cm_66 (eqp (vI 0) (LAYC.take 56) cv_116 cm_67) := by
  refine Cal.of (by decide +kernel) (Nat.le_of_ble_eq_true rfl) (fun _ => rfl) ?_
  show T RX3 cX3_init 3 none 2 4 0 0 true (eqp (vI 0) (LAYC.take 56) cv_116 cm_67) 0 [aR (some 55), aI 0, aR (some 7)] [] (LAYC.take 56) cv_115 cm_66 0 0
  refine T_aload_n dX3_init_0 rfl ?_
  refine T_objInit dX3_init_1 ml_X3_3 oi_inst oi_code (Nat.le_of_ble_eq_true rfl) (Nat.le_of_ble_eq_true rfl) ?_
  refine T_aload_n dX3_init_4 rfl ?_
  refine T_iload_n dX3_init_5 rfl ?_
  refine T_putI (M' := cm_67) dX3_init_6 clOK_X3 fl_X3_9 (Or.inr ⟨rfl, rfl, rfl, fw_X3_9⟩) (show (LAYC.take 56)[55]? = some (3, 0) from rfl) rfl rfl rfl ?_
  refine T_aload_n dX3_init_9 rfl ?_
  refine T_aload_n dX3_init_10 rfl ?_
  refine T_putR (V' := cv_116) dX3_init_11 clOK_X3 fl_X3_15 (Or.inr ⟨rfl, rfl, rfl, fw_X3_15⟩) (show (LAYC.take 56)[55]? = some (3, 0) from rfl) rfl (Or.inl ⟨_, rfl⟩) rfl ?_
  exact T_vret dX3_init_14 ⟨rfl, rfl, rfl, rfl⟩
set_option maxRecDepth 100000 in
set_option maxHeartbeats 4000000 in
theorem kc_21 : Cal yX3_init cX3_init 3 none 2 4 0 0 true [vR (some 56), vI 1, vR (some 7)] (LAYC.take 57) cv_118 cm_68 (eqp (vI 0) (LAYC.take 57) cv_119 cm_69) := by
  refine Cal.of (by decide +kernel) (Nat.le_of_ble_eq_true rfl) (fun _ => rfl) ?_
  show T RX3 cX3_init 3 none 2 4 0 0 true (eqp (vI 0) (LAYC.take 57) cv_119 cm_69) 0 [aR (some 56), aI 1, aR (some 7)] [] (LAYC.take 57) cv_118 cm_68 0 0
  refine T_aload_n dX3_init_0 rfl ?_
  refine T_objInit dX3_init_1 ml_X3_3 oi_inst oi_code (Nat.le_of_ble_eq_true rfl) (Nat.le_of_ble_eq_true rfl) ?_
  refine T_aload_n dX3_init_4 rfl ?_
  refine T_iload_n dX3_init_5 rfl ?_
  refine T_putI (M' := cm_69) dX3_init_6 clOK_X3 fl_X3_9 (Or.inr ⟨rfl, rfl, rfl, fw_X3_9⟩) (show (LAYC.take 57)[56]? = some (3, 0) from rfl) rfl rfl rfl ?_
  refine T_aload_n dX3_init_9 rfl ?_
  refine T_aload_n dX3_init_10 rfl ?_
  refine T_putR (V' := cv_119) dX3_init_11 clOK_X3 fl_X3_15 (Or.inr ⟨rfl, rfl, rfl, fw_X3_15⟩) (show (LAYC.take 57)[56]? = some (3, 0) from rfl) rfl (Or.inl ⟨_, rfl⟩) rfl ?_
  exact T_vret dX3_init_14 ⟨rfl, rfl, rfl, rfl⟩
set_option maxRecDepth 100000 in
set_option maxHeartbeats 4000000 in
theorem kc_22 : Cal yX3_init cX3_init 3 none 2 4 0 0 true [vR (some 57), vI (nI 2), vR (some 7)] (LAYC.take 58) cv_121 cm_70 (eqp (vI 0) (LAYC.take 58) cv_122 cm_71) := by
  refine Cal.of (by decide +kernel) (Nat.le_of_ble_eq_true rfl) (fun _ => rfl) ?_
  show T RX3 cX3_init 3 none 2 4 0 0 true (eqp (vI 0) (LAYC.take 58) cv_122 cm_71) 0 [aR (some 57), aI (nI 2), aR (some 7)] [] (LAYC.take 58) cv_121 cm_70 0 0
  refine T_aload_n dX3_init_0 rfl ?_
  refine T_objInit dX3_init_1 ml_X3_3 oi_inst oi_code (Nat.le_of_ble_eq_true rfl) (Nat.le_of_ble_eq_true rfl) ?_
  refine T_aload_n dX3_init_4 rfl ?_
  refine T_iload_n dX3_init_5 rfl ?_
  refine T_putI (M' := cm_71) dX3_init_6 clOK_X3 fl_X3_9 (Or.inr ⟨rfl, rfl, rfl, fw_X3_9⟩) (show (LAYC.take 58)[57]? = some (3, 0) from rfl) rfl rfl rfl ?_
  refine T_aload_n dX3_init_9 rfl ?_
  refine T_aload_n dX3_init_10 rfl ?_
  refine T_putR (V' := cv_122) dX3_init_11 clOK_X3 fl_X3_15 (Or.inr ⟨rfl, rfl, rfl, fw_X3_15⟩) (show (LAYC.take 58)[57]? = some (3, 0) from rfl) rfl (Or.inl ⟨_, rfl⟩) rfl ?_
  exact T_vret dX3_init_14 ⟨rfl, rfl, rfl, rfl⟩
set_option maxRecDepth 100000 in
set_option maxHeartbeats 4000000 in
theorem kc_23 : Cal yX3_init cX3_init 3 none 2 4 0 0 true [vR (some 58), vI (nI 3), vR (some 7)] (LAYC.take 59) cv_124 cm_72 (eqp (vI 0) (LAYC.take 59) cv_125 cm_73) := by
  refine Cal.of (by decide +kernel) (Nat.le_of_ble_eq_true rfl) (fun _ => rfl) ?_
  show T RX3 cX3_init 3 none 2 4 0 0 true (eqp (vI 0) (LAYC.take 59) cv_125 cm_73) 0 [aR (some 58), aI (nI 3), aR (some 7)] [] (LAYC.take 59) cv_124 cm_72 0 0
  refine T_aload_n dX3_init_0 rfl ?_
  refine T_objInit dX3_init_1 ml_X3_3 oi_inst oi_code (Nat.le_of_ble_eq_true rfl) (Nat.le_of_ble_eq_true rfl) ?_
  refine T_aload_n dX3_init_4 rfl ?_
  refine T_iload_n dX3_init_5 rfl ?_
  refine T_putI (M' := cm_73) dX3_init_6 clOK_X3 fl_X3_9 (Or.inr ⟨rfl, rfl, rfl, fw_X3_9⟩) (show (LAYC.take 59)[58]? = some (3, 0) from rfl) rfl rfl rfl ?_
  refine T_aload_n dX3_init_9 rfl ?_
  refine T_aload_n dX3_init_10 rfl ?_
  refine T_putR (V' := cv_125) dX3_init_11 clOK_X3 fl_X3_15 (Or.inr ⟨rfl, rfl, rfl, fw_X3_15⟩) (show (LAYC.take 59)[58]? = some (3, 0) from rfl) rfl (Or.inl ⟨_, rfl⟩) rfl ?_
  exact T_vret dX3_init_14 ⟨rfl, rfl, rfl, rfl⟩
set_option maxRecDepth 100000 in
set_option maxHeartbeats 4000000 in
theorem kc_24 : Cal yX3_init cX3_init 3 none 2 4 0 0 true [vR (some 59), vI (nI 4), vR (some 7)] (LAYC.take 60) cv_127 cm_74 (eqp (vI 0) (LAYC.take 60) cv_128 cm_75) := by
  refine Cal.of (by decide +kernel) (Nat.le_of_ble_eq_true rfl) (fun _ => rfl) ?_
  show T RX3 cX3_init 3 none 2 4 0 0 true (eqp (vI 0) (LAYC.take 60) cv_128 cm_75) 0 [aR (some 59), aI (nI 4), aR (some 7)] [] (LAYC.take 60) cv_127 cm_74 0 0
  refine T_aload_n dX3_init_0 rfl ?_
  refine T_objInit dX3_init_1 ml_X3_3 oi_inst oi_code (Nat.le_of_ble_eq_true rfl) (Nat.le_of_ble_eq_true rfl) ?_
  refine T_aload_n dX3_init_4 rfl ?_
  refine T_iload_n dX3_init_5 rfl ?_
  refine T_putI (M' := cm_75) dX3_init_6 clOK_X3 fl_X3_9 (Or.inr ⟨rfl, rfl, rfl, fw_X3_9⟩) (show (LAYC.take 60)[59]? = some (3, 0) from rfl) rfl rfl rfl ?_
  refine T_aload_n dX3_init_9 rfl ?_
  refine T_aload_n dX3_init_10 rfl ?_
  refine T_putR (V' := cv_128) dX3_init_11 clOK_X3 fl_X3_15 (Or.inr ⟨rfl, rfl, rfl, fw_X3_15⟩) (show (LAYC.take 60)[59]? = some (3, 0) from rfl) rfl (Or.inl ⟨_, rfl⟩) rfl ?_
  exact T_vret dX3_init_14 ⟨rfl, rfl, rfl, rfl⟩
set_option maxRecDepth 100000 in
set_option maxHeartbeats 4000000 in
theorem kc_25 : Cal yX3_init cX3_init 3 none 2 4 0 0 true [vR (some 60), vI (nI 5), vR (some 7)] (LAYC.take 61) cv_130 cm_76 (eqp (vI 0) (LAYC.take 61) cv_131 cm_77) := by
  refine Cal.of (by decide +kernel) (Nat.le_of_ble_eq_true rfl) (fun _ => rfl) ?_
  show T RX3 cX3_init 3 none 2 4 0 0 true (eqp (vI 0) (LAYC.take 61) cv_131 cm_77) 0 [aR (some 60), aI (nI 5), aR (some 7)] [] (LAYC.take 61) cv_130 cm_76 0 0
  refine T_aload_n dX3_init_0 rfl ?_
  refine T_objInit dX3_init_1 ml_X3_3 oi_inst oi_code (Nat.le_of_ble_eq_true rfl) (Nat.le_of_ble_eq_true rfl) ?_
  refine T_aload_n dX3_init_4 rfl ?_
  refine T_iload_n dX3_init_5 rfl ?_
  refine T_putI (M' := cm_77) dX3_init_6 clOK_X3 fl_X3_9 (Or.inr ⟨rfl, rfl, rfl, fw_X3_9⟩) (show (LAYC.take 61)[60]? = some (3, 0) from rfl) rfl rfl rfl ?_
  refine T_aload_n dX3_init_9 rfl ?_
  refine T_aload_n dX3_init_10 rfl ?_
  refine T_putR (V' := cv_131) dX3_init_11 clOK_X3 fl_X3_15 (Or.inr ⟨rfl, rfl, rfl, fw_X3_15⟩) (show (LAYC.take 61)[60]? = some (3, 0) from rfl) rfl (Or.inl ⟨_, rfl⟩) rfl ?_
  exact T_vret dX3_init_14 ⟨rfl, rfl, rfl, rfl⟩
set_option maxRecDepth 100000 in
set_option maxHeartbeats 4000000 in
theorem kc_26 : Cal yX8_init cX8_init 2 none 2 8 60 887 true [vR (some 0)] (LAYC.take 1) cv_0 cm_0 (eqp (vI 0) (LAYC.take 61) cv_132 cm_77) := by
  refine Cal.of (by decide +kernel) (Nat.le_of_ble_eq_true rfl) (fun _ => rfl) ?_
  show T RX8 cX8_init 2 none 2 8 60 887 true (eqp (vI 0) (LAYC.take 61) cv_132 cm_77) 0 [aR (some 0), aU] [] (LAYC.take 1) cv_0 cm_0 0 0
  refine T_aload_n dX8_init_0 rfl ?_
  refine T_objInit dX8_init_1 ml_X8_1 oi_inst oi_code (Nat.le_of_ble_eq_true rfl) (Nat.le_of_ble_eq_true rfl) ?_
  refine T_aload_n dX8_init_4 rfl ?_
  refine T_bipush dX8_init_5 bp_6 ?_
  refine T_newq (N := 6) (SH' := (LAYC.take 2)) (V' := cv_1) (M' := cm_1) dX8_init_7 ck_X8_9 (Or.inr (Or.inr ⟨rfl, rfl, rfl⟩)) (by decide) (by decide) (Nat.le_of_ble_eq_true rfl) (Nat.le_of_ble_eq_true rfl) (Nat.le_of_ble_eq_true rfl) (Nat.le_of_ble_eq_true rfl) rfl rfl rfl ?_
  refine T_putR (V' := cv_2) dX8_init_10 clOK_X8 fl_X8_11 (Or.inr ⟨rfl, rfl, rfl, fw_X8_11⟩) (show (LAYC.take 2)[0]? = some (7, 0) from rfl) rfl (Or.inr ⟨_, rfl⟩) rfl ?_
  refine T_aload_n dX8_init_13 rfl ?_
  refine T_iconst dX8_init_14 ic_4 ?_
  refine T_newq (N := 4) (SH' := (LAYC.take 3)) (V' := cv_3) (M' := cm_2) dX8_init_15 ck_X8_9 (Or.inr (Or.inr ⟨rfl, rfl, rfl⟩)) (by decide) (by decide) (Nat.le_of_ble_eq_true rfl) (Nat.le_of_ble_eq_true rfl) (Nat.le_of_ble_eq_true rfl) (Nat.le_of_ble_eq_true rfl) rfl rfl rfl ?_
  refine T_putR (V' := cv_4) dX8_init_18 clOK_X8 fl_X8_15 (Or.inr ⟨rfl, rfl, rfl, fw_X8_15⟩) (show (LAYC.take 3)[0]? = some (7, 0) from rfl) rfl (Or.inr ⟨_, rfl⟩) rfl ?_
  refine T_aload_n dX8_init_21 rfl ?_
  refine T_new (SH' := (LAYC.take 4)) (V' := cv_5) (M' := cm_3) dX8_init_22 clOK_X4 clTy_X4 ck_X8_18 in_X4 ini_X4 (Nat.le_of_ble_eq_true rfl) (Nat.le_of_ble_eq_true rfl) (Nat.le_of_ble_eq_true rfl) rfl rfl rfl ?_
  refine T_dup dX8_init_25 rfl ?_
  refine T_cin (mc' := 3) (ms' := 26) (as := []) (SH' := (LAYC.take 7)) (V' := cv_11) (M' := cm_6) dX8_init_26 cw_X4_init ml_X8_20 mi_X4_init rfl rfl (Nat.le_of_ble_eq_true rfl) (Nat.le_of_ble_eq_true rfl) (Nat.le_of_ble_eq_true rfl) (Nat.le_of_ble_eq_true rfl) rfl (Nat.le_of_ble_eq_true rfl) kc_1 ?_
  refine T_putR (V' := cv_12) dX8_init_29 clOK_X8 fl_X8_21 (Or.inr ⟨rfl, rfl, rfl, fw_X8_21⟩) (show (LAYC.take 7)[0]? = some (7, 0) from rfl) rfl (Or.inl ⟨_, rfl⟩) rfl ?_
  refine T_aload_n dX8_init_32 rfl ?_
  refine T_new (SH' := (LAYC.take 8)) (V' := cv_13) (M' := cm_7) dX8_init_33 clOK_X2 clTy_X2 ck_X8_25 in_X2 ini_X2 (Nat.le_of_ble_eq_true rfl) (Nat.le_of_ble_eq_true rfl) (Nat.le_of_ble_eq_true rfl) rfl rfl rfl ?_
  refine T_dup dX8_init_36 rfl ?_
  refine T_cin (mc' := 1) (ms' := 4) (as := []) (SH' := (LAYC.take 9)) (V' := cv_15) (M' := cm_8) dX8_init_37 cw_X2_init ml_X8_27 mi_X2_init rfl rfl (Nat.le_of_ble_eq_true rfl) (Nat.le_of_ble_eq_true rfl) (Nat.le_of_ble_eq_true rfl) (Nat.le_of_ble_eq_true rfl) rfl (Nat.le_of_ble_eq_true rfl) kc_2 ?_
  refine T_putR (V' := cv_16) dX8_init_40 clOK_X8 fl_X8_28 (Or.inr ⟨rfl, rfl, rfl, fw_X8_28⟩) (show (LAYC.take 9)[0]? = some (7, 0) from rfl) rfl (Or.inl ⟨_, rfl⟩) rfl ?_
  refine T_aload_n dX8_init_43 rfl ?_
  refine T_new (SH' := (LAYC.take 10)) (V' := cv_17) (M' := cm_9) dX8_init_44 clOK_X1 clTy_X1 ck_X8_32 in_X1 ini_X1 (Nat.le_of_ble_eq_true rfl) (Nat.le_of_ble_eq_true rfl) (Nat.le_of_ble_eq_true rfl) rfl rfl rfl ?_
  refine T_dup dX8_init_47 rfl ?_
  refine T_aload_n dX8_init_48 rfl ?_
  refine T_getR (o := some 7) dX8_init_49 clOK_X8 fl_X8_28 (show (LAYC.take 10)[0]? = some (7, 0) from rfl) rfl (by decide +kernel) ?_
  refine T_ci (mc' := 2) (ms' := 24) (as := [vR (some 7)]) (SH' := (LAYC.take 12)) (V' := cv_22) (M' := cm_11) dX8_init_52 cw_X1_init ml_X8_34 mi_X1_init rfl rfl (Nat.le_of_ble_eq_true rfl) (Nat.le_of_ble_eq_true rfl) (Nat.le_of_ble_eq_true rfl) (Nat.le_of_ble_eq_true rfl) rfl (Nat.le_of_ble_eq_true rfl) kc_3 ?_
  refine T_putR (V' := cv_23) dX8_init_55 clOK_X8 fl_X8_37 (Or.inr ⟨rfl, rfl, rfl, fw_X8_37⟩) (show (LAYC.take 12)[0]? = some (7, 0) from rfl) rfl (Or.inl ⟨_, rfl⟩) rfl ?_
  refine T_aload_n dX8_init_58 rfl ?_
  refine T_iconst dX8_init_59 ic_3 ?_
  refine T_newq (N := 3) (SH' := (LAYC.take 13)) (V' := cv_24) (M' := cm_12) dX8_init_60 ck_X8_32 (Or.inl ⟨rfl, rfl, rfl⟩) (by decide) (by decide) (Nat.le_of_ble_eq_true rfl) (Nat.le_of_ble_eq_true rfl) (Nat.le_of_ble_eq_true rfl) (Nat.le_of_ble_eq_true rfl) rfl rfl rfl ?_
  refine T_putR (V' := cv_25) dX8_init_63 clOK_X8 fl_X8_41 (Or.inr ⟨rfl, rfl, rfl, fw_X8_41⟩) (show (LAYC.take 13)[0]? = some (7, 0) from rfl) rfl (Or.inr ⟨_, rfl⟩) rfl ?_
  refine T_aload_n dX8_init_66 rfl ?_
  refine T_gets0 dX8_init_67 fs_X8_45 ?_
  refine T_slen0 dX8_init_70 ?_
  refine T_newq (N := 6) (SH' := (LAYC.take 14)) (V' := cv_26) (M' := cm_13) dX8_init_71 ck_X8_49 (Or.inr (Or.inl ⟨rfl, rfl, rfl⟩)) (by decide) (by decide) (Nat.le_of_ble_eq_true rfl) (Nat.le_of_ble_eq_true rfl) (Nat.le_of_ble_eq_true rfl) (Nat.le_of_ble_eq_true rfl) rfl rfl rfl ?_
  refine T_putR (V' := cv_27) dX8_init_74 clOK_X8 fl_X8_51 (Or.inr ⟨rfl, rfl, rfl, fw_X8_51⟩) (show (LAYC.take 14)[0]? = some (7, 0) from rfl) rfl (Or.inr ⟨_, rfl⟩) rfl ?_
  refine T_aload_n dX8_init_77 rfl ?_
  refine T_bipush dX8_init_78 bp_6 ?_
  refine T_newq (N := 6) (SH' := (LAYC.take 15)) (V' := cv_28) (M' := cm_14) dX8_init_80 ck_X8_49 (Or.inr (Or.inl ⟨rfl, rfl, rfl⟩)) (by decide) (by decide) (Nat.le_of_ble_eq_true rfl) (Nat.le_of_ble_eq_true rfl) (Nat.le_of_ble_eq_true rfl) (Nat.le_of_ble_eq_true rfl) rfl rfl rfl ?_
  refine T_putR (V' := cv_29) dX8_init_83 clOK_X8 fl_X8_55 (Or.inr ⟨rfl, rfl, rfl, fw_X8_55⟩) (show (LAYC.take 15)[0]? = some (7, 0) from rfl) rfl (Or.inr ⟨_, rfl⟩) rfl ?_
  refine T_aload_n dX8_init_86 rfl ?_
  refine T_new (SH' := (LAYC.take 16)) (V' := cv_30) (M' := cm_15) dX8_init_87 clOK_X0 clTy_X0 ck_X8_58 in_X0 ini_X0 (Nat.le_of_ble_eq_true rfl) (Nat.le_of_ble_eq_true rfl) (Nat.le_of_ble_eq_true rfl) rfl rfl rfl ?_
  refine T_dup dX8_init_90 rfl ?_
  refine T_cin (mc' := 3) (ms' := 120) (as := []) (SH' := (LAYC.take 19)) (V' := cv_36) (M' := cm_18) dX8_init_91 cw_X0_init ml_X8_60 mi_X0_init rfl rfl (Nat.le_of_ble_eq_true rfl) (Nat.le_of_ble_eq_true rfl) (Nat.le_of_ble_eq_true rfl) (Nat.le_of_ble_eq_true rfl) rfl (Nat.le_of_ble_eq_true rfl) kc_4 ?_
  refine T_putR (V' := cv_37) dX8_init_94 clOK_X8 fl_X8_61 (Or.inr ⟨rfl, rfl, rfl, fw_X8_61⟩) (show (LAYC.take 19)[0]? = some (7, 0) from rfl) rfl (Or.inl ⟨_, rfl⟩) rfl ?_
  refine T_aload_n dX8_init_97 rfl ?_
  refine T_new (SH' := (LAYC.take 20)) (V' := cv_38) (M' := cm_19) dX8_init_98 clOK_X6 clTy_X6 ck_X8_65 in_X6 ini_X6 (Nat.le_of_ble_eq_true rfl) (Nat.le_of_ble_eq_true rfl) (Nat.le_of_ble_eq_true rfl) rfl rfl rfl ?_
  refine T_dup dX8_init_101 rfl ?_
  refine T_aload_n dX8_init_102 rfl ?_
  refine T_getR (o := some 7) dX8_init_103 clOK_X8 fl_X8_28 (show (LAYC.take 20)[0]? = some (7, 0) from rfl) rfl (by decide +kernel) ?_
  refine T_ci (mc' := 4) (ms' := 35) (as := [vR (some 7)]) (SH' := (LAYC.take 24)) (V' := cv_48) (M' := cm_23) dX8_init_106 cw_X6_init ml_X8_67 mi_X6_init rfl rfl (Nat.le_of_ble_eq_true rfl) (Nat.le_of_ble_eq_true rfl) (Nat.le_of_ble_eq_true rfl) (Nat.le_of_ble_eq_true rfl) rfl (Nat.le_of_ble_eq_true rfl) kc_6 ?_
  refine T_putR (V' := cv_49) dX8_init_109 clOK_X8 fl_X8_68 (Or.inr ⟨rfl, rfl, rfl, fw_X8_68⟩) (show (LAYC.take 24)[0]? = some (7, 0) from rfl) rfl (Or.inl ⟨_, rfl⟩) rfl ?_
  refine T_aload_n dX8_init_112 rfl ?_
  refine T_bipush dX8_init_113 bp_8 ?_
  refine T_newaI (N := 8) (SH' := (LAYC.take 25)) (V' := cv_50) (M' := cm_24) dX8_init_115 ar_int (by decide) (by decide) (Nat.le_of_ble_eq_true rfl) (Nat.le_of_ble_eq_true rfl) (Nat.le_of_ble_eq_true rfl) (Nat.le_of_ble_eq_true rfl) rfl rfl rfl ?_
  refine T_putR (V' := cv_51) dX8_init_117 clOK_X8 fl_X8_72 (Or.inr ⟨rfl, rfl, rfl, fw_X8_72⟩) (show (LAYC.take 25)[0]? = some (7, 0) from rfl) rfl (Or.inr ⟨_, rfl⟩) rfl ?_
  refine T_aload_n dX8_init_120 rfl ?_
  refine T_lconst dX8_init_121 lc_1 ?_
  refine T_putJ (M' := cm_25) dX8_init_122 clOK_X8 fl_X8_75 (Or.inl rfl) (show (LAYC.take 25)[0]? = some (7, 0) from rfl) rfl rfl rfl ?_
  refine T_aload_n dX8_init_125 rfl ?_
  refine T_bipush dX8_init_126 bp_6 ?_
  refine T_newaI (N := 6) (SH' := (LAYC.take 26)) (V' := cv_52) (M' := cm_26) dX8_init_128 ar_int (by decide) (by decide) (Nat.le_of_ble_eq_true rfl) (Nat.le_of_ble_eq_true rfl) (Nat.le_of_ble_eq_true rfl) (Nat.le_of_ble_eq_true rfl) rfl rfl rfl ?_
  refine T_putR (V' := cv_53) dX8_init_130 clOK_X8 fl_X8_79 (Or.inr ⟨rfl, rfl, rfl, fw_X8_79⟩) (show (LAYC.take 26)[0]? = some (7, 0) from rfl) rfl (Or.inr ⟨_, rfl⟩) rfl ?_
  refine T_iconst dX8_init_133 ic_0 ?_
  refine T_istore_n (i := 1) (L' := [aR (some 0), aI 0]) dX8_init_134 rfl (Nat.le_of_ble_eq_true rfl) rfl ?_
  refine T_iload_n dX8_init_135 rfl ?_
  refine T_aload_n dX8_init_136 rfl ?_
  refine T_getR (o := some 1) dX8_init_137 clOK_X8 fl_X8_11 (show (LAYC.take 26)[0]? = some (7, 0) from rfl) rfl (by decide +kernel) ?_
  refine T_alen (v := 6) dX8_init_140 (show (LAYC.take 26)[1]? = some (35, 6) from rfl) (Or.inr (Or.inr (Or.inr (Or.inr rfl)))) (by decide) ?_
  refine T_icmp_ge (tgt := 165) dX8_init_141 (by decide) (fun hc => absurd hc (by decide)) (fun _ => ?_)
  refine T_aload_n dX8_init_144 rfl ?_
  refine T_getR (o := some 1) dX8_init_145 clOK_X8 fl_X8_11 (show (LAYC.take 26)[0]? = some (7, 0) from rfl) rfl (by decide +kernel) ?_
  refine T_iload_n dX8_init_148 rfl ?_
  refine T_new (SH' := (LAYC.take 27)) (V' := cv_54) (M' := cm_27) dX8_init_149 clOK_X5 clTy_X5 ck_X8_9 in_X5 ini_X5 (Nat.le_of_ble_eq_true rfl) (Nat.le_of_ble_eq_true rfl) (Nat.le_of_ble_eq_true rfl) rfl rfl rfl ?_
  refine T_dup dX8_init_152 rfl ?_
  refine T_bipush dX8_init_153 bp_40 ?_
  refine T_ci (mc' := 1) (ms' := 40) (as := [vI (nI 40)]) (SH' := (LAYC.take 28)) (V' := cv_56) (M' := cm_29) dX8_init_155 cw_X5_init ml_X8_82 mi_X5_init rfl rfl (Nat.le_of_ble_eq_true rfl) (Nat.le_of_ble_eq_true rfl) (Nat.le_of_ble_eq_true rfl) (Nat.le_of_ble_eq_true rfl) rfl (Nat.le_of_ble_eq_true rfl) kc_7 ?_
  refine T_aast (V' := cv_57) dX8_init_158 (show (LAYC.take 28)[1]? = some (35, 6) from rfl) (Or.inr (Or.inr ⟨rfl, rfl⟩)) (show (LAYC.take 28)[26]? = some (5, 0) from rfl) (inb_in (by decide)) rfl ?_
  refine T_iinc (v := 1) (L' := [aR (some 0), aI 1]) dX8_init_159 rfl (by decide) (Nat.le_of_ble_eq_true rfl) rfl ?_
  refine T_goto (tgt := 135) dX8_init_162 (by decide) ?_
  refine T_iload_n dX8_init_135 rfl ?_
  refine T_aload_n dX8_init_136 rfl ?_
  refine T_getR (o := some 1) dX8_init_137 clOK_X8 fl_X8_11 (show (LAYC.take 28)[0]? = some (7, 0) from rfl) rfl (by decide +kernel) ?_
  refine T_alen (v := 6) dX8_init_140 (show (LAYC.take 28)[1]? = some (35, 6) from rfl) (Or.inr (Or.inr (Or.inr (Or.inr rfl)))) (by decide) ?_
  refine T_icmp_ge (tgt := 165) dX8_init_141 (by decide) (fun hc => absurd hc (by decide)) (fun _ => ?_)
  refine T_aload_n dX8_init_144 rfl ?_
  refine T_getR (o := some 1) dX8_init_145 clOK_X8 fl_X8_11 (show (LAYC.take 28)[0]? = some (7, 0) from rfl) rfl (by decide +kernel) ?_
  refine T_iload_n dX8_init_148 rfl ?_
  refine T_new (SH' := (LAYC.take 29)) (V' := cv_58) (M' := cm_30) dX8_init_149 clOK_X5 clTy_X5 ck_X8_9 in_X5 ini_X5 (Nat.le_of_ble_eq_true rfl) (Nat.le_of_ble_eq_true rfl) (Nat.le_of_ble_eq_true rfl) rfl rfl rfl ?_
  refine T_dup dX8_init_152 rfl ?_
  refine T_bipush dX8_init_153 bp_40 ?_
  refine T_ci (mc' := 1) (ms' := 40) (as := [vI (nI 40)]) (SH' := (LAYC.take 30)) (V' := cv_60) (M' := cm_32) dX8_init_155 cw_X5_init ml_X8_82 mi_X5_init rfl rfl (Nat.le_of_ble_eq_true rfl) (Nat.le_of_ble_eq_true rfl) (Nat.le_of_ble_eq_true rfl) (Nat.le_of_ble_eq_true rfl) rfl (Nat.le_of_ble_eq_true rfl) kc_8 ?_
  refine T_aast (V' := cv_61) dX8_init_158 (show (LAYC.take 30)[1]? = some (35, 6) from rfl) (Or.inr (Or.inr ⟨rfl, rfl⟩)) (show (LAYC.take 30)[28]? = some (5, 0) from rfl) (inb_in (by decide)) rfl ?_
  refine T_iinc (v := (nI 2)) (L' := [aR (some 0), aI (nI 2)]) dX8_init_159 rfl (by decide) (Nat.le_of_ble_eq_true rfl) rfl ?_
  refine T_goto (tgt := 135) dX8_init_162 (by decide) ?_
  refine T_iload_n dX8_init_135 rfl ?_
  refine T_aload_n dX8_init_136 rfl ?_
  refine T_getR (o := some 1) dX8_init_137 clOK_X8 fl_X8_11 (show (LAYC.take 30)[0]? = some (7, 0) from rfl) rfl (by decide +kernel) ?_
  refine T_alen (v := 6) dX8_init_140 (show (LAYC.take 30)[1]? = some (35, 6) from rfl) (Or.inr (Or.inr (Or.inr (Or.inr rfl)))) (by decide) ?_
  refine T_icmp_ge (tgt := 165) dX8_init_141 (by decide) (fun hc => absurd hc (by decide)) (fun _ => ?_)
  refine T_aload_n dX8_init_144 rfl ?_
  refine T_getR (o := some 1) dX8_init_145 clOK_X8 fl_X8_11 (show (LAYC.take 30)[0]? = some (7, 0) from rfl) rfl (by decide +kernel) ?_
  refine T_iload_n dX8_init_148 rfl ?_
  refine T_new (SH' := (LAYC.take 31)) (V' := cv_62) (M' := cm_33) dX8_init_149 clOK_X5 clTy_X5 ck_X8_9 in_X5 ini_X5 (Nat.le_of_ble_eq_true rfl) (Nat.le_of_ble_eq_true rfl) (Nat.le_of_ble_eq_true rfl) rfl rfl rfl ?_
  refine T_dup dX8_init_152 rfl ?_
  refine T_bipush dX8_init_153 bp_40 ?_
  refine T_ci (mc' := 1) (ms' := 40) (as := [vI (nI 40)]) (SH' := (LAYC.take 32)) (V' := cv_64) (M' := cm_35) dX8_init_155 cw_X5_init ml_X8_82 mi_X5_init rfl rfl (Nat.le_of_ble_eq_true rfl) (Nat.le_of_ble_eq_true rfl) (Nat.le_of_ble_eq_true rfl) (Nat.le_of_ble_eq_true rfl) rfl (Nat.le_of_ble_eq_true rfl) kc_9 ?_
  refine T_aast (V' := cv_65) dX8_init_158 (show (LAYC.take 32)[1]? = some (35, 6) from rfl) (Or.inr (Or.inr ⟨rfl, rfl⟩)) (show (LAYC.take 32)[30]? = some (5, 0) from rfl) (inb_in (by decide)) rfl ?_
  refine T_iinc (v := (nI 3)) (L' := [aR (some 0), aI (nI 3)]) dX8_init_159 rfl (by decide) (Nat.le_of_ble_eq_true rfl) rfl ?_
  refine T_goto (tgt := 135) dX8_init_162 (by decide) ?_
  refine T_iload_n dX8_init_135 rfl ?_
  refine T_aload_n dX8_init_136 rfl ?_
  refine T_getR (o := some 1) dX8_init_137 clOK_X8 fl_X8_11 (show (LAYC.take 32)[0]? = some (7, 0) from rfl) rfl (by decide +kernel) ?_
  refine T_alen (v := 6) dX8_init_140 (show (LAYC.take 32)[1]? = some (35, 6) from rfl) (Or.inr (Or.inr (Or.inr (Or.inr rfl)))) (by decide) ?_
  refine T_icmp_ge (tgt := 165) dX8_init_141 (by decide) (fun hc => absurd hc (by decide)) (fun _ => ?_)
  refine T_aload_n dX8_init_144 rfl ?_
  refine T_getR (o := some 1) dX8_init_145 clOK_X8 fl_X8_11 (show (LAYC.take 32)[0]? = some (7, 0) from rfl) rfl (by decide +kernel) ?_
  refine T_iload_n dX8_init_148 rfl ?_
  refine T_new (SH' := (LAYC.take 33)) (V' := cv_66) (M' := cm_36) dX8_init_149 clOK_X5 clTy_X5 ck_X8_9 in_X5 ini_X5 (Nat.le_of_ble_eq_true rfl) (Nat.le_of_ble_eq_true rfl) (Nat.le_of_ble_eq_true rfl) rfl rfl rfl ?_
  refine T_dup dX8_init_152 rfl ?_
  refine T_bipush dX8_init_153 bp_40 ?_
  refine T_ci (mc' := 1) (ms' := 40) (as := [vI (nI 40)]) (SH' := (LAYC.take 34)) (V' := cv_68) (M' := cm_38) dX8_init_155 cw_X5_init ml_X8_82 mi_X5_init rfl rfl (Nat.le_of_ble_eq_true rfl) (Nat.le_of_ble_eq_true rfl) (Nat.le_of_ble_eq_true rfl) (Nat.le_of_ble_eq_true rfl) rfl (Nat.le_of_ble_eq_true rfl) kc_10 ?_
  refine T_aast (V' := cv_69) dX8_init_158 (show (LAYC.take 34)[1]? = some (35, 6) from rfl) (Or.inr (Or.inr ⟨rfl, rfl⟩)) (show (LAYC.take 34)[32]? = some (5, 0) from rfl) (inb_in (by decide)) rfl ?_
  refine T_iinc (v := (nI 4)) (L' := [aR (some 0), aI (nI 4)]) dX8_init_159 rfl (by decide) (Nat.le_of_ble_eq_true rfl) rfl ?_
  refine T_goto (tgt := 135) dX8_init_162 (by decide) ?_
  refine T_iload_n dX8_init_135 rfl ?_
  refine T_aload_n dX8_init_136 rfl ?_
  refine T_getR (o := some 1) dX8_init_137 clOK_X8 fl_X8_11 (show (LAYC.take 34)[0]? = some (7, 0) from rfl) rfl (by decide +kernel) ?_
  refine T_alen (v := 6) dX8_init_140 (show (LAYC.take 34)[1]? = some (35, 6) from rfl) (Or.inr (Or.inr (Or.inr (Or.inr rfl)))) (by decide) ?_
  refine T_icmp_ge (tgt := 165) dX8_init_141 (by decide) (fun hc => absurd hc (by decide)) (fun _ => ?_)
  refine T_aload_n dX8_init_144 rfl ?_
  refine T_getR (o := some 1) dX8_init_145 clOK_X8 fl_X8_11 (show (LAYC.take 34)[0]? = some (7, 0) from rfl) rfl (by decide +kernel) ?_
  refine T_iload_n dX8_init_148 rfl ?_
  refine T_new (SH' := (LAYC.take 35)) (V' := cv_70) (M' := cm_39) dX8_init_149 clOK_X5 clTy_X5 ck_X8_9 in_X5 ini_X5 (Nat.le_of_ble_eq_true rfl) (Nat.le_of_ble_eq_true rfl) (Nat.le_of_ble_eq_true rfl) rfl rfl rfl ?_
  refine T_dup dX8_init_152 rfl ?_
  refine T_bipush dX8_init_153 bp_40 ?_
  refine T_ci (mc' := 1) (ms' := 40) (as := [vI (nI 40)]) (SH' := (LAYC.take 36)) (V' := cv_72) (M' := cm_41) dX8_init_155 cw_X5_init ml_X8_82 mi_X5_init rfl rfl (Nat.le_of_ble_eq_true rfl) (Nat.le_of_ble_eq_true rfl) (Nat.le_of_ble_eq_true rfl) (Nat.le_of_ble_eq_true rfl) rfl (Nat.le_of_ble_eq_true rfl) kc_11 ?_
  refine T_aast (V' := cv_73) dX8_init_158 (show (LAYC.take 36)[1]? = some (35, 6) from rfl) (Or.inr (Or.inr ⟨rfl, rfl⟩)) (show (LAYC.take 36)[34]? = some (5, 0) from rfl) (inb_in (by decide)) rfl ?_
  refine T_iinc (v := (nI 5)) (L' := [aR (some 0), aI (nI 5)]) dX8_init_159 rfl (by decide) (Nat.le_of_ble_eq_true rfl) rfl ?_
  refine T_goto (tgt := 135) dX8_init_162 (by decide) ?_
  refine T_iload_n dX8_init_135 rfl ?_
  refine T_aload_n dX8_init_136 rfl ?_
  refine T_getR (o := some 1) dX8_init_137 clOK_X8 fl_X8_11 (show (LAYC.take 36)[0]? = some (7, 0) from rfl) rfl (by decide +kernel) ?_
  refine T_alen (v := 6) dX8_init_140 (show (LAYC.take 36)[1]? = some (35, 6) from rfl) (Or.inr (Or.inr (Or.inr (Or.inr rfl)))) (by decide) ?_
  refine T_icmp_ge (tgt := 165) dX8_init_141 (by decide) (fun hc => absurd hc (by decide)) (fun _ => ?_)
  refine T_aload_n dX8_init_144 rfl ?_
  refine T_getR (o := some 1) dX8_init_145 clOK_X8 fl_X8_11 (show (LAYC.take 36)[0]? = some (7, 0) from rfl) rfl (by decide +kernel) ?_
  refine T_iload_n dX8_init_148 rfl ?_
  refine T_new (SH' := (LAYC.take 37)) (V' := cv_74) (M' := cm_42) dX8_init_149 clOK_X5 clTy_X5 ck_X8_9 in_X5 ini_X5 (Nat.le_of_ble_eq_true rfl) (Nat.le_of_ble_eq_true rfl) (Nat.le_of_ble_eq_true rfl) rfl rfl rfl ?_
  refine T_dup dX8_init_152 rfl ?_
  refine T_bipush dX8_init_153 bp_40 ?_
  refine T_ci (mc' := 1) (ms' := 40) (as := [vI (nI 40)]) (SH' := (LAYC.take 38)) (V' := cv_76) (M' := cm_44) dX8_init_155 cw_X5_init ml_X8_82 mi_X5_init rfl rfl (Nat.le_of_ble_eq_true rfl) (Nat.le_of_ble_eq_true rfl) (Nat.le_of_ble_eq_true rfl) (Nat.le_of_ble_eq_true rfl) rfl (Nat.le_of_ble_eq_true rfl) kc_12 ?_
  refine T_aast (V' := cv_77) dX8_init_158 (show (LAYC.take 38)[1]? = some (35, 6) from rfl) (Or.inr (Or.inr ⟨rfl, rfl⟩)) (show (LAYC.take 38)[36]? = some (5, 0) from rfl) (inb_in (by decide)) rfl ?_
  refine T_iinc (v := (nI 6)) (L' := [aR (some 0), aI (nI 6)]) dX8_init_159 rfl (by decide) (Nat.le_of_ble_eq_true rfl) rfl ?_
  refine T_goto (tgt := 135) dX8_init_162 (by decide) ?_
  refine T_iload_n dX8_init_135 rfl ?_
  refine T_aload_n dX8_init_136 rfl ?_
  refine T_getR (o := some 1) dX8_init_137 clOK_X8 fl_X8_11 (show (LAYC.take 38)[0]? = some (7, 0) from rfl) rfl (by decide +kernel) ?_
  refine T_alen (v := 6) dX8_init_140 (show (LAYC.take 38)[1]? = some (35, 6) from rfl) (Or.inr (Or.inr (Or.inr (Or.inr rfl)))) (by decide) ?_
  refine T_icmp_ge (tgt := 165) dX8_init_141 (by decide) (fun _ => ?_) (fun hc => absurd (by decide) hc)
  refine T_iconst dX8_init_165 ic_0 ?_
  refine T_istore_n (i := 1) (L' := [aR (some 0), aI 0]) dX8_init_166 rfl (Nat.le_of_ble_eq_true rfl) rfl ?_
  refine T_iload_n dX8_init_167 rfl ?_
  refine T_aload_n dX8_init_168 rfl ?_
  refine T_getR (o := some 2) dX8_init_169 clOK_X8 fl_X8_15 (show (LAYC.take 38)[0]? = some (7, 0) from rfl) rfl (by decide +kernel) ?_
  refine T_alen (v := 4) dX8_init_172 (show (LAYC.take 38)[2]? = some (35, 4) from rfl) (Or.inr (Or.inr (Or.inr (Or.inr rfl)))) (by decide) ?_
  refine T_icmp_ge (tgt := 197) dX8_init_173 (by decide) (fun hc => absurd hc (by decide)) (fun _ => ?_)
  refine T_aload_n dX8_init_176 rfl ?_
  refine T_getR (o := some 2) dX8_init_177 clOK_X8 fl_X8_15 (show (LAYC.take 38)[0]? = some (7, 0) from rfl) rfl (by decide +kernel) ?_
  refine T_iload_n dX8_init_180 rfl ?_
  refine T_new (SH' := (LAYC.take 39)) (V' := cv_78) (M' := cm_45) dX8_init_181 clOK_X5 clTy_X5 ck_X8_9 in_X5 ini_X5 (Nat.le_of_ble_eq_true rfl) (Nat.le_of_ble_eq_true rfl) (Nat.le_of_ble_eq_true rfl) rfl rfl rfl ?_
  refine T_dup dX8_init_184 rfl ?_
  refine T_bipush dX8_init_185 bp_60 ?_
  refine T_ci (mc' := 1) (ms' := 60) (as := [vI (nI 60)]) (SH' := (LAYC.take 40)) (V' := cv_80) (M' := cm_47) dX8_init_187 cw_X5_init ml_X8_82 mi_X5_init rfl rfl (Nat.le_of_ble_eq_true rfl) (Nat.le_of_ble_eq_true rfl) (Nat.le_of_ble_eq_true rfl) (Nat.le_of_ble_eq_true rfl) rfl (Nat.le_of_ble_eq_true rfl) kc_13 ?_
  refine T_aast (V' := cv_81) dX8_init_190 (show (LAYC.take 40)[2]? = some (35, 4) from rfl) (Or.inr (Or.inr ⟨rfl, rfl⟩)) (show (LAYC.take 40)[38]? = some (5, 0) from rfl) (inb_in (by decide)) rfl ?_
  refine T_iinc (v := 1) (L' := [aR (some 0), aI 1]) dX8_init_191 rfl (by decide) (Nat.le_of_ble_eq_true rfl) rfl ?_
  refine T_goto (tgt := 167) dX8_init_194 (by decide) ?_
  refine T_iload_n dX8_init_167 rfl ?_
  refine T_aload_n dX8_init_168 rfl ?_
  refine T_getR (o := some 2) dX8_init_169 clOK_X8 fl_X8_15 (show (LAYC.take 40)[0]? = some (7, 0) from rfl) rfl (by decide +kernel) ?_
  refine T_alen (v := 4) dX8_init_172 (show (LAYC.take 40)[2]? = some (35, 4) from rfl) (Or.inr (Or.inr (Or.inr (Or.inr rfl)))) (by decide) ?_
  refine T_icmp_ge (tgt := 197) dX8_init_173 (by decide) (fun hc => absurd hc (by decide)) (fun _ => ?_)
  refine T_aload_n dX8_init_176 rfl ?_
  refine T_getR (o := some 2) dX8_init_177 clOK_X8 fl_X8_15 (show (LAYC.take 40)[0]? = some (7, 0) from rfl) rfl (by decide +kernel) ?_
  refine T_iload_n dX8_init_180 rfl ?_
  refine T_new (SH' := (LAYC.take 41)) (V' := cv_82) (M' := cm_48) dX8_init_181 clOK_X5 clTy_X5 ck_X8_9 in_X5 ini_X5 (Nat.le_of_ble_eq_true rfl) (Nat.le_of_ble_eq_true rfl) (Nat.le_of_ble_eq_true rfl) rfl rfl rfl ?_
  refine T_dup dX8_init_184 rfl ?_
  refine T_bipush dX8_init_185 bp_60 ?_
  refine T_ci (mc' := 1) (ms' := 60) (as := [vI (nI 60)]) (SH' := (LAYC.take 42)) (V' := cv_84) (M' := cm_50) dX8_init_187 cw_X5_init ml_X8_82 mi_X5_init rfl rfl (Nat.le_of_ble_eq_true rfl) (Nat.le_of_ble_eq_true rfl) (Nat.le_of_ble_eq_true rfl) (Nat.le_of_ble_eq_true rfl) rfl (Nat.le_of_ble_eq_true rfl) kc_14 ?_
  refine T_aast (V' := cv_85) dX8_init_190 (show (LAYC.take 42)[2]? = some (35, 4) from rfl) (Or.inr (Or.inr ⟨rfl, rfl⟩)) (show (LAYC.take 42)[40]? = some (5, 0) from rfl) (inb_in (by decide)) rfl ?_
  refine T_iinc (v := (nI 2)) (L' := [aR (some 0), aI (nI 2)]) dX8_init_191 rfl (by decide) (Nat.le_of_ble_eq_true rfl) rfl ?_
  refine T_goto (tgt := 167) dX8_init_194 (by decide) ?_
  refine T_iload_n dX8_init_167 rfl ?_
  refine T_aload_n dX8_init_168 rfl ?_
  refine T_getR (o := some 2) dX8_init_169 clOK_X8 fl_X8_15 (show (LAYC.take 42)[0]? = some (7, 0) from rfl) rfl (by decide +kernel) ?_
  refine T_alen (v := 4) dX8_init_172 (show (LAYC.take 42)[2]? = some (35, 4) from rfl) (Or.inr (Or.inr (Or.inr (Or.inr rfl)))) (by decide) ?_
  refine T_icmp_ge (tgt := 197) dX8_init_173 (by decide) (fun hc => absurd hc (by decide)) (fun _ => ?_)
  refine T_aload_n dX8_init_176 rfl ?_
  refine T_getR (o := some 2) dX8_init_177 clOK_X8 fl_X8_15 (show (LAYC.take 42)[0]? = some (7, 0) from rfl) rfl (by decide +kernel) ?_
  refine T_iload_n dX8_init_180 rfl ?_
  refine T_new (SH' := (LAYC.take 43)) (V' := cv_86) (M' := cm_51) dX8_init_181 clOK_X5 clTy_X5 ck_X8_9 in_X5 ini_X5 (Nat.le_of_ble_eq_true rfl) (Nat.le_of_ble_eq_true rfl) (Nat.le_of_ble_eq_true rfl) rfl rfl rfl ?_
  refine T_dup dX8_init_184 rfl ?_
  refine T_bipush dX8_init_185 bp_60 ?_
  refine T_ci (mc' := 1) (ms' := 60) (as := [vI (nI 60)]) (SH' := (LAYC.take 44)) (V' := cv_88) (M' := cm_53) dX8_init_187 cw_X5_init ml_X8_82 mi_X5_init rfl rfl (Nat.le_of_ble_eq_true rfl) (Nat.le_of_ble_eq_true rfl) (Nat.le_of_ble_eq_true rfl) (Nat.le_of_ble_eq_true rfl) rfl (Nat.le_of_ble_eq_true rfl) kc_15 ?_
  refine T_aast (V' := cv_89) dX8_init_190 (show (LAYC.take 44)[2]? = some (35, 4) from rfl) (Or.inr (Or.inr ⟨rfl, rfl⟩)) (show (LAYC.take 44)[42]? = some (5, 0) from rfl) (inb_in (by decide)) rfl ?_
  refine T_iinc (v := (nI 3)) (L' := [aR (some 0), aI (nI 3)]) dX8_init_191 rfl (by decide) (Nat.le_of_ble_eq_true rfl) rfl ?_
  refine T_goto (tgt := 167) dX8_init_194 (by decide) ?_
  refine T_iload_n dX8_init_167 rfl ?_
  refine T_aload_n dX8_init_168 rfl ?_
  refine T_getR (o := some 2) dX8_init_169 clOK_X8 fl_X8_15 (show (LAYC.take 44)[0]? = some (7, 0) from rfl) rfl (by decide +kernel) ?_
  refine T_alen (v := 4) dX8_init_172 (show (LAYC.take 44)[2]? = some (35, 4) from rfl) (Or.inr (Or.inr (Or.inr (Or.inr rfl)))) (by decide) ?_
  refine T_icmp_ge (tgt := 197) dX8_init_173 (by decide) (fun hc => absurd hc (by decide)) (fun _ => ?_)
  refine T_aload_n dX8_init_176 rfl ?_
  refine T_getR (o := some 2) dX8_init_177 clOK_X8 fl_X8_15 (show (LAYC.take 44)[0]? = some (7, 0) from rfl) rfl (by decide +kernel) ?_
  refine T_iload_n dX8_init_180 rfl ?_
  refine T_new (SH' := (LAYC.take 45)) (V' := cv_90) (M' := cm_54) dX8_init_181 clOK_X5 clTy_X5 ck_X8_9 in_X5 ini_X5 (Nat.le_of_ble_eq_true rfl) (Nat.le_of_ble_eq_true rfl) (Nat.le_of_ble_eq_true rfl) rfl rfl rfl ?_
  refine T_dup dX8_init_184 rfl ?_
  refine T_bipush dX8_init_185 bp_60 ?_
  refine T_ci (mc' := 1) (ms' := 60) (as := [vI (nI 60)]) (SH' := (LAYC.take 46)) (V' := cv_92) (M' := cm_56) dX8_init_187 cw_X5_init ml_X8_82 mi_X5_init rfl rfl (Nat.le_of_ble_eq_true rfl) (Nat.le_of_ble_eq_true rfl) (Nat.le_of_ble_eq_true rfl) (Nat.le_of_ble_eq_true rfl) rfl (Nat.le_of_ble_eq_true rfl) kc_16 ?_
  refine T_aast (V' := cv_93) dX8_init_190 (show (LAYC.take 46)[2]? = some (35, 4) from rfl) (Or.inr (Or.inr ⟨rfl, rfl⟩)) (show (LAYC.take 46)[44]? = some (5, 0) from rfl) (inb_in (by decide)) rfl ?_
  refine T_iinc (v := (nI 4)) (L' := [aR (some 0), aI (nI 4)]) dX8_init_191 rfl (by decide) (Nat.le_of_ble_eq_true rfl) rfl ?_
  refine T_goto (tgt := 167) dX8_init_194 (by decide) ?_
  refine T_iload_n dX8_init_167 rfl ?_
  refine T_aload_n dX8_init_168 rfl ?_
  refine T_getR (o := some 2) dX8_init_169 clOK_X8 fl_X8_15 (show (LAYC.take 46)[0]? = some (7, 0) from rfl) rfl (by decide +kernel) ?_
  refine T_alen (v := 4) dX8_init_172 (show (LAYC.take 46)[2]? = some (35, 4) from rfl) (Or.inr (Or.inr (Or.inr (Or.inr rfl)))) (by decide) ?_
  refine T_icmp_ge (tgt := 197) dX8_init_173 (by decide) (fun _ => ?_) (fun hc => absurd (by decide) hc)
  refine T_iconst dX8_init_197 ic_0 ?_
  refine T_istore_n (i := 1) (L' := [aR (some 0), aI 0]) dX8_init_198 rfl (Nat.le_of_ble_eq_true rfl) rfl ?_
  refine T_iload_n dX8_init_199 rfl ?_
  refine T_aload_n dX8_init_200 rfl ?_
  refine T_getR (o := some 12) dX8_init_201 clOK_X8 fl_X8_41 (show (LAYC.take 46)[0]? = some (7, 0) from rfl) rfl (by decide +kernel) ?_
  refine T_alen (v := 3) dX8_init_204 (show (LAYC.take 46)[12]? = some (31, 3) from rfl) (Or.inr (Or.inr (Or.inl rfl))) (by decide) ?_
  refine T_icmp_ge (tgt := 231) dX8_init_205 (by decide) (fun hc => absurd hc (by decide)) (fun _ => ?_)
  refine T_aload_n dX8_init_208 rfl ?_
  refine T_getR (o := some 12) dX8_init_209 clOK_X8 fl_X8_41 (show (LAYC.take 46)[0]? = some (7, 0) from rfl) rfl (by decide +kernel) ?_
  refine T_iload_n dX8_init_212 rfl ?_
  refine T_new (SH' := (LAYC.take 47)) (V' := cv_94) (M' := cm_57) dX8_init_213 clOK_X1 clTy_X1 ck_X8_32 in_X1 ini_X1 (Nat.le_of_ble_eq_true rfl) (Nat.le_of_ble_eq_true rfl) (Nat.le_of_ble_eq_true rfl) rfl rfl rfl ?_
  refine T_dup dX8_init_216 rfl ?_
  refine T_aload_n dX8_init_217 rfl ?_
  refine T_getR (o := some 7) dX8_init_218 clOK_X8 fl_X8_28 (show (LAYC.take 47)[0]? = some (7, 0) from rfl) rfl (by decide +kernel) ?_
  refine T_ci (mc' := 2) (ms' := 24) (as := [vR (some 7)]) (SH' := (LAYC.take 49)) (V' := cv_99) (M' := cm_59) dX8_init_221 cw_X1_init ml_X8_34 mi_X1_init rfl rfl (Nat.le_of_ble_eq_true rfl) (Nat.le_of_ble_eq_true rfl) (Nat.le_of_ble_eq_true rfl) (Nat.le_of_ble_eq_true rfl) rfl (Nat.le_of_ble_eq_true rfl) kc_17 ?_
  refine T_aast (V' := cv_100) dX8_init_224 (show (LAYC.take 49)[12]? = some (31, 3) from rfl) (Or.inl ⟨rfl, rfl⟩) (show (LAYC.take 49)[46]? = some (1, 0) from rfl) (inb_in (by decide)) rfl ?_
  refine T_iinc (v := 1) (L' := [aR (some 0), aI 1]) dX8_init_225 rfl (by decide) (Nat.le_of_ble_eq_true rfl) rfl ?_
  refine T_goto (tgt := 199) dX8_init_228 (by decide) ?_
  refine T_iload_n dX8_init_199 rfl ?_
  refine T_aload_n dX8_init_200 rfl ?_
  refine T_getR (o := some 12) dX8_init_201 clOK_X8 fl_X8_41 (show (LAYC.take 49)[0]? = some (7, 0) from rfl) rfl (by decide +kernel) ?_
  refine T_alen (v := 3) dX8_init_204 (show (LAYC.take 49)[12]? = some (31, 3) from rfl) (Or.inr (Or.inr (Or.inl rfl))) (by decide) ?_
  refine T_icmp_ge (tgt := 231) dX8_init_205 (by decide) (fun hc => absurd hc (by decide)) (fun _ => ?_)
  refine T_aload_n dX8_init_208 rfl ?_
  refine T_getR (o := some 12) dX8_init_209 clOK_X8 fl_X8_41 (show (LAYC.take 49)[0]? = some (7, 0) from rfl) rfl (by decide +kernel) ?_
  refine T_iload_n dX8_init_212 rfl ?_
  refine T_new (SH' := (LAYC.take 50)) (V' := cv_101) (M' := cm_60) dX8_init_213 clOK_X1 clTy_X1 ck_X8_32 in_X1 ini_X1 (Nat.le_of_ble_eq_true rfl) (Nat.le_of_ble_eq_true rfl) (Nat.le_of_ble_eq_true rfl) rfl rfl rfl ?_
  refine T_dup dX8_init_216 rfl ?_
  refine T_aload_n dX8_init_217 rfl ?_
  refine T_getR (o := some 7) dX8_init_218 clOK_X8 fl_X8_28 (show (LAYC.take 50)[0]? = some (7, 0) from rfl) rfl (by decide +kernel) ?_
  refine T_ci (mc' := 2) (ms' := 24) (as := [vR (some 7)]) (SH' := (LAYC.take 52)) (V' := cv_106) (M' := cm_62) dX8_init_221 cw_X1_init ml_X8_34 mi_X1_init rfl rfl (Nat.le_of_ble_eq_true rfl) (Nat.le_of_ble_eq_true rfl) (Nat.le_of_ble_eq_true rfl) (Nat.le_of_ble_eq_true rfl) rfl (Nat.le_of_ble_eq_true rfl) kc_18 ?_
  refine T_aast (V' := cv_107) dX8_init_224 (show (LAYC.take 52)[12]? = some (31, 3) from rfl) (Or.inl ⟨rfl, rfl⟩) (show (LAYC.take 52)[49]? = some (1, 0) from rfl) (inb_in (by decide)) rfl ?_
  refine T_iinc (v := (nI 2)) (L' := [aR (some 0), aI (nI 2)]) dX8_init_225 rfl (by decide) (Nat.le_of_ble_eq_true rfl) rfl ?_
  refine T_goto (tgt := 199) dX8_init_228 (by decide) ?_
  refine T_iload_n dX8_init_199 rfl ?_
  refine T_aload_n dX8_init_200 rfl ?_
  refine T_getR (o := some 12) dX8_init_201 clOK_X8 fl_X8_41 (show (LAYC.take 52)[0]? = some (7, 0) from rfl) rfl (by decide +kernel) ?_
  refine T_alen (v := 3) dX8_init_204 (show (LAYC.take 52)[12]? = some (31, 3) from rfl) (Or.inr (Or.inr (Or.inl rfl))) (by decide) ?_
  refine T_icmp_ge (tgt := 231) dX8_init_205 (by decide) (fun hc => absurd hc (by decide)) (fun _ => ?_)
  refine T_aload_n dX8_init_208 rfl ?_
  refine T_getR (o := some 12) dX8_init_209 clOK_X8 fl_X8_41 (show (LAYC.take 52)[0]? = some (7, 0) from rfl) rfl (by decide +kernel) ?_
  refine T_iload_n dX8_init_212 rfl ?_
  refine T_new (SH' := (LAYC.take 53)) (V' := cv_108) (M' := cm_63) dX8_init_213 clOK_X1 clTy_X1 ck_X8_32 in_X1 ini_X1 (Nat.le_of_ble_eq_true rfl) (Nat.le_of_ble_eq_true rfl) (Nat.le_of_ble_eq_true rfl) rfl rfl rfl ?_
  refine T_dup dX8_init_216 rfl ?_
  refine T_aload_n dX8_init_217 rfl ?_
  refine T_getR (o := some 7) dX8_init_218 clOK_X8 fl_X8_28 (show (LAYC.take 53)[0]? = some (7, 0) from rfl) rfl (by decide +kernel) ?_
  refine T_ci (mc' := 2) (ms' := 24) (as := [vR (some 7)]) (SH' := (LAYC.take 55)) (V' := cv_113) (M' := cm_65) dX8_init_221 cw_X1_init ml_X8_34 mi_X1_init rfl rfl (Nat.le_of_ble_eq_true rfl) (Nat.le_of_ble_eq_true rfl) (Nat.le_of_ble_eq_true rfl) (Nat.le_of_ble_eq_true rfl) rfl (Nat.le_of_ble_eq_true rfl) kc_19 ?_
  refine T_aast (V' := cv_114) dX8_init_224 (show (LAYC.take 55)[12]? = some (31, 3) from rfl) (Or.inl ⟨rfl, rfl⟩) (show (LAYC.take 55)[52]? = some (1, 0) from rfl) (inb_in (by decide)) rfl ?_
  refine T_iinc (v := (nI 3)) (L' := [aR (some 0), aI (nI 3)]) dX8_init_225 rfl (by decide) (Nat.le_of_ble_eq_true rfl) rfl ?_
  refine T_goto (tgt := 199) dX8_init_228 (by decide) ?_
  refine T_iload_n dX8_init_199 rfl ?_
  refine T_aload_n dX8_init_200 rfl ?_
  refine T_getR (o := some 12) dX8_init_201 clOK_X8 fl_X8_41 (show (LAYC.take 55)[0]? = some (7, 0) from rfl) rfl (by decide +kernel) ?_
  refine T_alen (v := 3) dX8_init_204 (show (LAYC.take 55)[12]? = some (31, 3) from rfl) (Or.inr (Or.inr (Or.inl rfl))) (by decide) ?_
  refine T_icmp_ge (tgt := 231) dX8_init_205 (by decide) (fun _ => ?_) (fun hc => absurd (by decide) hc)
  refine T_iconst dX8_init_231 ic_0 ?_
  refine T_istore_n (i := 1) (L' := [aR (some 0), aI 0]) dX8_init_232 rfl (Nat.le_of_ble_eq_true rfl) rfl ?_
  refine T_iload_n dX8_init_233 rfl ?_
  refine T_aload_n dX8_init_234 rfl ?_
  refine T_getR (o := some 13) dX8_init_235 clOK_X8 fl_X8_51 (show (LAYC.take 55)[0]? = some (7, 0) from rfl) rfl (by decide +kernel) ?_
  refine T_alen (v := 6) dX8_init_238 (show (LAYC.take 55)[13]? = some (33, 6) from rfl) (Or.inr (Or.inr (Or.inr (Or.inl rfl)))) (by decide) ?_
  refine T_icmp_ge (tgt := 266) dX8_init_239 (by decide) (fun hc => absurd hc (by decide)) (fun _ => ?_)
  refine T_aload_n dX8_init_242 rfl ?_
  refine T_getR (o := some 13) dX8_init_243 clOK_X8 fl_X8_51 (show (LAYC.take 55)[0]? = some (7, 0) from rfl) rfl (by decide +kernel) ?_
  refine T_iload_n dX8_init_246 rfl ?_
  refine T_new (SH' := (LAYC.take 56)) (V' := cv_115) (M' := cm_66) dX8_init_247 clOK_X3 clTy_X3 ck_X8_49 in_X3 ini_X3 (Nat.le_of_ble_eq_true rfl) (Nat.le_of_ble_eq_true rfl) (Nat.le_of_ble_eq_true rfl) rfl rfl rfl ?_
  refine T_dup dX8_init_250 rfl ?_
  refine T_iload_n dX8_init_251 rfl ?_
  refine T_aload_n dX8_init_252 rfl ?_
  refine T_getR (o := some 7) dX8_init_253 clOK_X8 fl_X8_28 (show (LAYC.take 56)[0]? = some (7, 0) from rfl) rfl (by decide +kernel) ?_
  refine T_ci (mc' := 0) (ms' := 0) (as := [vI 0, vR (some 7)]) (SH' := (LAYC.take 56)) (V' := cv_116) (M' := cm_67) dX8_init_256 cw_X3_init ml_X8_85 mi_X3_init rfl rfl (Nat.le_of_ble_eq_true rfl) (Nat.le_of_ble_eq_true rfl) (Nat.le_of_ble_eq_true rfl) (Nat.le_of_ble_eq_true rfl) rfl (Nat.le_of_ble_eq_true rfl) kc_20 ?_
  refine T_aast (V' := cv_117) dX8_init_259 (show (LAYC.take 56)[13]? = some (33, 6) from rfl) (Or.inr (Or.inl ⟨rfl, rfl⟩)) (show (LAYC.take 56)[55]? = some (3, 0) from rfl) (inb_in (by decide)) rfl ?_
  refine T_iinc (v := 1) (L' := [aR (some 0), aI 1]) dX8_init_260 rfl (by decide) (Nat.le_of_ble_eq_true rfl) rfl ?_
  refine T_goto (tgt := 233) dX8_init_263 (by decide) ?_
  refine T_iload_n dX8_init_233 rfl ?_
  refine T_aload_n dX8_init_234 rfl ?_
  refine T_getR (o := some 13) dX8_init_235 clOK_X8 fl_X8_51 (show (LAYC.take 56)[0]? = some (7, 0) from rfl) rfl (by decide +kernel) ?_
  refine T_alen (v := 6) dX8_init_238 (show (LAYC.take 56)[13]? = some (33, 6) from rfl) (Or.inr (Or.inr (Or.inr (Or.inl rfl)))) (by decide) ?_
  refine T_icmp_ge (tgt := 266) dX8_init_239 (by decide) (fun hc => absurd hc (by decide)) (fun _ => ?_)
  refine T_aload_n dX8_init_242 rfl ?_
  refine T_getR (o := some 13) dX8_init_243 clOK_X8 fl_X8_51 (show (LAYC.take 56)[0]? = some (7, 0) from rfl) rfl (by decide +kernel) ?_
  refine T_iload_n dX8_init_246 rfl ?_
  refine T_new (SH' := (LAYC.take 57)) (V' := cv_118) (M' := cm_68) dX8_init_247 clOK_X3 clTy_X3 ck_X8_49 in_X3 ini_X3 (Nat.le_of_ble_eq_true rfl) (Nat.le_of_ble_eq_true rfl) (Nat.le_of_ble_eq_true rfl) rfl rfl rfl ?_
  refine T_dup dX8_init_250 rfl ?_
  refine T_iload_n dX8_init_251 rfl ?_
  refine T_aload_n dX8_init_252 rfl ?_
  refine T_getR (o := some 7) dX8_init_253 clOK_X8 fl_X8_28 (show (LAYC.take 57)[0]? = some (7, 0) from rfl) rfl (by decide +kernel) ?_
  refine T_ci (mc' := 0) (ms' := 0) (as := [vI 1, vR (some 7)]) (SH' := (LAYC.take 57)) (V' := cv_119) (M' := cm_69) dX8_init_256 cw_X3_init ml_X8_85 mi_X3_init rfl rfl (Nat.le_of_ble_eq_true rfl) (Nat.le_of_ble_eq_true rfl) (Nat.le_of_ble_eq_true rfl) (Nat.le_of_ble_eq_true rfl) rfl (Nat.le_of_ble_eq_true rfl) kc_21 ?_
  refine T_aast (V' := cv_120) dX8_init_259 (show (LAYC.take 57)[13]? = some (33, 6) from rfl) (Or.inr (Or.inl ⟨rfl, rfl⟩)) (show (LAYC.take 57)[56]? = some (3, 0) from rfl) (inb_in (by decide)) rfl ?_
  refine T_iinc (v := (nI 2)) (L' := [aR (some 0), aI (nI 2)]) dX8_init_260 rfl (by decide) (Nat.le_of_ble_eq_true rfl) rfl ?_
  refine T_goto (tgt := 233) dX8_init_263 (by decide) ?_
  refine T_iload_n dX8_init_233 rfl ?_
  refine T_aload_n dX8_init_234 rfl ?_
  refine T_getR (o := some 13) dX8_init_235 clOK_X8 fl_X8_51 (show (LAYC.take 57)[0]? = some (7, 0) from rfl) rfl (by decide +kernel) ?_
  refine T_alen (v := 6) dX8_init_238 (show (LAYC.take 57)[13]? = some (33, 6) from rfl) (Or.inr (Or.inr (Or.inr (Or.inl rfl)))) (by decide) ?_
  refine T_icmp_ge (tgt := 266) dX8_init_239 (by decide) (fun hc => absurd hc (by decide)) (fun _ => ?_)
  refine T_aload_n dX8_init_242 rfl ?_
  refine T_getR (o := some 13) dX8_init_243 clOK_X8 fl_X8_51 (show (LAYC.take 57)[0]? = some (7, 0) from rfl) rfl (by decide +kernel) ?_
  refine T_iload_n dX8_init_246 rfl ?_
  refine T_new (SH' := (LAYC.take 58)) (V' := cv_121) (M' := cm_70) dX8_init_247 clOK_X3 clTy_X3 ck_X8_49 in_X3 ini_X3 (Nat.le_of_ble_eq_true rfl) (Nat.le_of_ble_eq_true rfl) (Nat.le_of_ble_eq_true rfl) rfl rfl rfl ?_
  refine T_dup dX8_init_250 rfl ?_
  refine T_iload_n dX8_init_251 rfl ?_
  refine T_aload_n dX8_init_252 rfl ?_
  refine T_getR (o := some 7) dX8_init_253 clOK_X8 fl_X8_28 (show (LAYC.take 58)[0]? = some (7, 0) from rfl) rfl (by decide +kernel) ?_
  refine T_ci (mc' := 0) (ms' := 0) (as := [vI (nI 2), vR (some 7)]) (SH' := (LAYC.take 58)) (V' := cv_122) (M' := cm_71) dX8_init_256 cw_X3_init ml_X8_85 mi_X3_init rfl rfl (Nat.le_of_ble_eq_true rfl) (Nat.le_of_ble_eq_true rfl) (Nat.le_of_ble_eq_true rfl) (Nat.le_of_ble_eq_true rfl) rfl (Nat.le_of_ble_eq_true rfl) kc_22 ?_
  refine T_aast (V' := cv_123) dX8_init_259 (show (LAYC.take 58)[13]? = some (33, 6) from rfl) (Or.inr (Or.inl ⟨rfl, rfl⟩)) (show (LAYC.take 58)[57]? = some (3, 0) from rfl) (inb_in (by decide)) rfl ?_
  refine T_iinc (v := (nI 3)) (L' := [aR (some 0), aI (nI 3)]) dX8_init_260 rfl (by decide) (Nat.le_of_ble_eq_true rfl) rfl ?_
  refine T_goto (tgt := 233) dX8_init_263 (by decide) ?_
  refine T_iload_n dX8_init_233 rfl ?_
  refine T_aload_n dX8_init_234 rfl ?_
  refine T_getR (o := some 13) dX8_init_235 clOK_X8 fl_X8_51 (show (LAYC.take 58)[0]? = some (7, 0) from rfl) rfl (by decide +kernel) ?_
  refine T_alen (v := 6) dX8_init_238 (show (LAYC.take 58)[13]? = some (33, 6) from rfl) (Or.inr (Or.inr (Or.inr (Or.inl rfl)))) (by decide) ?_
  refine T_icmp_ge (tgt := 266) dX8_init_239 (by decide) (fun hc => absurd hc (by decide)) (fun _ => ?_)
  refine T_aload_n dX8_init_242 rfl ?_
  refine T_getR (o := some 13) dX8_init_243 clOK_X8 fl_X8_51 (show (LAYC.take 58)[0]? = some (7, 0) from rfl) rfl (by decide +kernel) ?_
  refine T_iload_n dX8_init_246 rfl ?_
  refine T_new (SH' := (LAYC.take 59)) (V' := cv_124) (M' := cm_72) dX8_init_247 clOK_X3 clTy_X3 ck_X8_49 in_X3 ini_X3 (Nat.le_of_ble_eq_true rfl) (Nat.le_of_ble_eq_true rfl) (Nat.le_of_ble_eq_true rfl) rfl rfl rfl ?_
  refine T_dup dX8_init_250 rfl ?_
  refine T_iload_n dX8_init_251 rfl ?_
  refine T_aload_n dX8_init_252 rfl ?_
  refine T_getR (o := some 7) dX8_init_253 clOK_X8 fl_X8_28 (show (LAYC.take 59)[0]? = some (7, 0) from rfl) rfl (by decide +kernel) ?_
  refine T_ci (mc' := 0) (ms' := 0) (as := [vI (nI 3), vR (some 7)]) (SH' := (LAYC.take 59)) (V' := cv_125) (M' := cm_73) dX8_init_256 cw_X3_init ml_X8_85 mi_X3_init rfl rfl (Nat.le_of_ble_eq_true rfl) (Nat.le_of_ble_eq_true rfl) (Nat.le_of_ble_eq_true rfl) (Nat.le_of_ble_eq_true rfl) rfl (Nat.le_of_ble_eq_true rfl) kc_23 ?_
  refine T_aast (V' := cv_126) dX8_init_259 (show (LAYC.take 59)[13]? = some (33, 6) from rfl) (Or.inr (Or.inl ⟨rfl, rfl⟩)) (show (LAYC.take 59)[58]? = some (3, 0) from rfl) (inb_in (by decide)) rfl ?_
  refine T_iinc (v := (nI 4)) (L' := [aR (some 0), aI (nI 4)]) dX8_init_260 rfl (by decide) (Nat.le_of_ble_eq_true rfl) rfl ?_
  refine T_goto (tgt := 233) dX8_init_263 (by decide) ?_
  refine T_iload_n dX8_init_233 rfl ?_
  refine T_aload_n dX8_init_234 rfl ?_
  refine T_getR (o := some 13) dX8_init_235 clOK_X8 fl_X8_51 (show (LAYC.take 59)[0]? = some (7, 0) from rfl) rfl (by decide +kernel) ?_
  refine T_alen (v := 6) dX8_init_238 (show (LAYC.take 59)[13]? = some (33, 6) from rfl) (Or.inr (Or.inr (Or.inr (Or.inl rfl)))) (by decide) ?_
  refine T_icmp_ge (tgt := 266) dX8_init_239 (by decide) (fun hc => absurd hc (by decide)) (fun _ => ?_)
  refine T_aload_n dX8_init_242 rfl ?_
  refine T_getR (o := some 13) dX8_init_243 clOK_X8 fl_X8_51 (show (LAYC.take 59)[0]? = some (7, 0) from rfl) rfl (by decide +kernel) ?_
  refine T_iload_n dX8_init_246 rfl ?_
  refine T_new (SH' := (LAYC.take 60)) (V' := cv_127) (M' := cm_74) dX8_init_247 clOK_X3 clTy_X3 ck_X8_49 in_X3 ini_X3 (Nat.le_of_ble_eq_true rfl) (Nat.le_of_ble_eq_true rfl) (Nat.le_of_ble_eq_true rfl) rfl rfl rfl ?_
  refine T_dup dX8_init_250 rfl ?_
  refine T_iload_n dX8_init_251 rfl ?_
  refine T_aload_n dX8_init_252 rfl ?_
  refine T_getR (o := some 7) dX8_init_253 clOK_X8 fl_X8_28 (show (LAYC.take 60)[0]? = some (7, 0) from rfl) rfl (by decide +kernel) ?_
  refine T_ci (mc' := 0) (ms' := 0) (as := [vI (nI 4), vR (some 7)]) (SH' := (LAYC.take 60)) (V' := cv_128) (M' := cm_75) dX8_init_256 cw_X3_init ml_X8_85 mi_X3_init rfl rfl (Nat.le_of_ble_eq_true rfl) (Nat.le_of_ble_eq_true rfl) (Nat.le_of_ble_eq_true rfl) (Nat.le_of_ble_eq_true rfl) rfl (Nat.le_of_ble_eq_true rfl) kc_24 ?_
  refine T_aast (V' := cv_129) dX8_init_259 (show (LAYC.take 60)[13]? = some (33, 6) from rfl) (Or.inr (Or.inl ⟨rfl, rfl⟩)) (show (LAYC.take 60)[59]? = some (3, 0) from rfl) (inb_in (by decide)) rfl ?_
  refine T_iinc (v := (nI 5)) (L' := [aR (some 0), aI (nI 5)]) dX8_init_260 rfl (by decide) (Nat.le_of_ble_eq_true rfl) rfl ?_
  refine T_goto (tgt := 233) dX8_init_263 (by decide) ?_
  refine T_iload_n dX8_init_233 rfl ?_
  refine T_aload_n dX8_init_234 rfl ?_
  refine T_getR (o := some 13) dX8_init_235 clOK_X8 fl_X8_51 (show (LAYC.take 60)[0]? = some (7, 0) from rfl) rfl (by decide +kernel) ?_
  refine T_alen (v := 6) dX8_init_238 (show (LAYC.take 60)[13]? = some (33, 6) from rfl) (Or.inr (Or.inr (Or.inr (Or.inl rfl)))) (by decide) ?_
  refine T_icmp_ge (tgt := 266) dX8_init_239 (by decide) (fun hc => absurd hc (by decide)) (fun _ => ?_)
  refine T_aload_n dX8_init_242 rfl ?_
  refine T_getR (o := some 13) dX8_init_243 clOK_X8 fl_X8_51 (show (LAYC.take 60)[0]? = some (7, 0) from rfl) rfl (by decide +kernel) ?_
  refine T_iload_n dX8_init_246 rfl ?_
  refine T_new (SH' := (LAYC.take 61)) (V' := cv_130) (M' := cm_76) dX8_init_247 clOK_X3 clTy_X3 ck_X8_49 in_X3 ini_X3 (Nat.le_of_ble_eq_true rfl) (Nat.le_of_ble_eq_true rfl) (Nat.le_of_ble_eq_true rfl) rfl rfl rfl ?_
  refine T_dup dX8_init_250 rfl ?_
  refine T_iload_n dX8_init_251 rfl ?_
  refine T_aload_n dX8_init_252 rfl ?_
  refine T_getR (o := some 7) dX8_init_253 clOK_X8 fl_X8_28 (show (LAYC.take 61)[0]? = some (7, 0) from rfl) rfl (by decide +kernel) ?_
  refine T_ci (mc' := 0) (ms' := 0) (as := [vI (nI 5), vR (some 7)]) (SH' := (LAYC.take 61)) (V' := cv_131) (M' := cm_77) dX8_init_256 cw_X3_init ml_X8_85 mi_X3_init rfl rfl (Nat.le_of_ble_eq_true rfl) (Nat.le_of_ble_eq_true rfl) (Nat.le_of_ble_eq_true rfl) (Nat.le_of_ble_eq_true rfl) rfl (Nat.le_of_ble_eq_true rfl) kc_25 ?_
  refine T_aast (V' := cv_132) dX8_init_259 (show (LAYC.take 61)[13]? = some (33, 6) from rfl) (Or.inr (Or.inl ⟨rfl, rfl⟩)) (show (LAYC.take 61)[60]? = some (3, 0) from rfl) (inb_in (by decide)) rfl ?_
  refine T_iinc (v := (nI 6)) (L' := [aR (some 0), aI (nI 6)]) dX8_init_260 rfl (by decide) (Nat.le_of_ble_eq_true rfl) rfl ?_
  refine T_goto (tgt := 233) dX8_init_263 (by decide) ?_
  refine T_iload_n dX8_init_233 rfl ?_
  refine T_aload_n dX8_init_234 rfl ?_
  refine T_getR (o := some 13) dX8_init_235 clOK_X8 fl_X8_51 (show (LAYC.take 61)[0]? = some (7, 0) from rfl) rfl (by decide +kernel) ?_
  refine T_alen (v := 6) dX8_init_238 (show (LAYC.take 61)[13]? = some (33, 6) from rfl) (Or.inr (Or.inr (Or.inr (Or.inl rfl)))) (by decide) ?_
  refine T_icmp_ge (tgt := 266) dX8_init_239 (by decide) (fun _ => ?_) (fun hc => absurd (by decide) hc)
  exact T_vret dX8_init_266 ⟨rfl, rfl, rfl, rfl⟩
