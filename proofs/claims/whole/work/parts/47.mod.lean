def X9_ground_L51 : Int32 × Mem → Option ((Int32 × Mem) ⊕ (Mem))
  | (x3, M) =>
    if (nI 16) ≤ x3 then some (.inr M)
    else if (gI M 0 11) ≤ x3 then chk (inb x3 16 = true) (lett (sI M 7 x3.toNatClampNeg 0) fun M_13 => lett (x3 + 1) fun x_16 => some (.inl (x_16, M_13)))
    else chk (inb x3 26 = true) (chk (inb x3 16 = true) (lett (sI M 7 x3.toNatClampNeg (gI M 10 x3.toNatClampNeg)) fun M_19 => lett (x3 + 1) fun x_22 => some (.inl (x_22, M_19))))
def X9_ground_L89 : Int32 × Mem → Option ((Int32 × Mem) ⊕ (Mem))
  | (x3, M) =>
    if (nI 4) ≤ x3 then some (.inr M)
    else if (gI M 0 10) ≤ x3 then chk (inb x3 4 = true) (lett (sI M 8 x3.toNatClampNeg 0) fun M_25 => lett (x3 + 1) fun x_28 => some (.inl (x_28, M_25)))
    else chk (inb ((nI 16) + x3) 26 = true) (chk (inb x3 4 = true) (lett (sI M 8 x3.toNatClampNeg (gI M 10 ((nI 16) + x3).toNatClampNeg)) fun M_31 => lett (x3 + 1) fun x_34 => some (.inl (x_34, M_31))))
def X9_ground_L129 : Int32 × Mem → Option ((Int32 × Mem) ⊕ (Mem))
  | (x3, M) =>
    if (gI M 0 12) ≤ x3 then some (.inr M)
    else chk (inb ((nI 20) + x3) 26 = true) (chk (inb x3 6 = true) (lett (sI M 9 x3.toNatClampNeg (gI M 10 ((nI 20) + x3).toNatClampNeg)) fun M_38 => lett (x3 + 1) fun x_41 => some (.inl (x_41, M_38))))
def X9_ground_L170 : Int32 × Mem → Option ((Int32 × Mem) ⊕ (Int32 × Mem))
  | (x3, M) =>
    if (nI 3) ≤ x3 then some (.inr (gI M 0 11, M))
    else chk (inb x3 3 = true) (lett (sI M 14 x3.toNatClampNeg 0) fun M_48 => lett (x3 + 1) fun x_51 => some (.inl (x_51, M_48)))
def F_X9_ground (M : Mem) (x1 : Int32) : Option (Int32 × Mem) :=
 bd2 (F_X9_askedText M x1) fun r_1 M_2 => if 0 ≤ r_1 then bd2 (F_X9_goesOn M_2 x1) fun r_4 M_5 => if r_4 = (-9) then lett (sI M_5 0 11 (gI M_5 0 19)) fun M_7 => lett (sI M_7 0 10 (gI M_7 0 18)) fun M_9 => lett (sI M_9 0 12 (gI M_9 0 20)) fun M_11 => bd1 (loop (X9_ground_L51 ) FU (0, M_11)) fun M_24 => bd1 (loop (X9_ground_L89 ) FU (0, M_24)) fun M_36 => bd1 (loop (X9_ground_L129 ) FU (0, M_36)) fun M_43 => lett (sI M_43 0 16 0) fun M_44 => lett (sI M_44 0 26 0) fun M_46 => loop (X9_ground_L170 ) FU (0, M_46)
 else some ((-4), M_5)
 else some (r_1, M_2)
set_option maxRecDepth 100000 in
set_option maxHeartbeats 4000000 in
theorem s_X9_ground_L51 (x3 : Int32) (M : Mem) {Po : Po_} (x : (Int32 × Mem) ⊕ (Mem)) (h : X9_ground_L51  (x3, M) = some x) (hI : ∀ (ix3 : Int32) (iM : Mem), x = .inl (ix3, iM) → T RX9 cX9_ground 4 (some .int) 0 6 0 0 false Po 51 [aR (some 0), aU, aU, aI ix3] [] LAYM rfm iM 0 0) (hE0 : ∀ (eM : Mem), x = .inr eM → T RX9 cX9_ground 4 (some .int) 0 6 0 0 false Po 87 [aR (some 0), aU, aU, aU] [] LAYM rfm eM 0 0) : T RX9 cX9_ground 4 (some .int) 0 6 0 0 false Po 51 [aR (some 0), aU, aU, aI x3] [] LAYM rfm M 0 0 := by
  unfold X9_ground_L51 at h
  simp only at h
  refine T_iload_n dX9_ground_51 rfl ?_
  refine T_bipush dX9_ground_52 bp_16 ?_
  refine T_icmp_ge (tgt := 87) dX9_ground_54 (by decide) (fun hc => ?_) (fun hc => ?_)
  · have h := it_pos hc h
    obtain rfl := sm1 h
    refine T_mask [true, true, true, false] rfl ?_
    exact hE0 _ rfl
  · have h := it_neg hc h
    refine T_aload_n dX9_ground_57 rfl ?_
    refine T_getR dX9_ground_58 clOK_X9 fl_X9_32 lyM_0 rfl rfl ?_
    refine T_iload_n dX9_ground_61 rfl ?_
    refine T_iload_n dX9_ground_62 rfl ?_
    refine T_aload_n dX9_ground_63 rfl ?_
    refine T_getI dX9_ground_64 clOK_X9 fl_X9_155 lyM_0 rfl ?_
    refine T_icmp_ge (tgt := 79) dX9_ground_67 (by decide) (fun hc => ?_) (fun hc => ?_)
    · have h := it_pos hc h
      refine T_iconst dX9_ground_79 ic_0 ?_
      obtain ⟨hi_15, h⟩ := chk_some h
      obtain ⟨M_13, eM_14, h⟩ := lett_some h
      refine T_iast dX9_ground_80 lyM_7 (inb_in hi_15) eM_14 ?_
      obtain ⟨x_16, ex_17, h⟩ := lett_some h
      refine T_iinc (L' := [aR (some 0), aU, aU, aI x_16]) dX9_ground_81 rfl (ic_inc ic_1 ex_17) (Nat.le_of_ble_eq_true rfl) rfl ?_
      refine T_goto (tgt := 51) dX9_ground_84 (by decide) ?_
      obtain rfl := sm1 h
      exact hI _ _ rfl
    · have h := it_neg hc h
      refine T_aload_n dX9_ground_70 rfl ?_
      refine T_getR dX9_ground_71 clOK_X9 fl_X9_41 lyM_0 rfl rfl ?_
      refine T_iload_n dX9_ground_74 rfl ?_
      obtain ⟨hi_18, h⟩ := chk_some h
      refine T_iald dX9_ground_75 lyM_10 (inb_in hi_18) ?_
      refine T_goto (tgt := 80) dX9_ground_76 (by decide) ?_
      obtain ⟨hi_21, h⟩ := chk_some h
      obtain ⟨M_19, eM_20, h⟩ := lett_some h
      refine T_iast dX9_ground_80 lyM_7 (inb_in hi_21) eM_20 ?_
      obtain ⟨x_22, ex_23, h⟩ := lett_some h
      refine T_iinc (L' := [aR (some 0), aU, aU, aI x_22]) dX9_ground_81 rfl (ic_inc ic_1 ex_23) (Nat.le_of_ble_eq_true rfl) rfl ?_
      refine T_goto (tgt := 51) dX9_ground_84 (by decide) ?_
      obtain rfl := sm1 h
      exact hI _ _ rfl
set_option maxRecDepth 100000 in
set_option maxHeartbeats 4000000 in
theorem l_X9_ground_L51 {Po : Po_} (eM : Mem) : ∀ (k : Nat) (x3 : Int32) (M : Mem), loop (X9_ground_L51 ) k (x3, M) = some eM → (T RX9 cX9_ground 4 (some .int) 0 6 0 0 false Po 87 [aR (some 0), aU, aU, aU] [] LAYM rfm eM 0 0) → T RX9 cX9_ground 4 (some .int) 0 6 0 0 false Po 51 [aR (some 0), aU, aU, aI x3] [] LAYM rfm M 0 0 := by
  intro k
  induction k with
  | zero => intro x3 M h; cases h
  | succ k ih =>
    intro x3 M h hE
    obtain ⟨x, hx, hx1, hx2⟩ := loop_succ h
    exact s_X9_ground_L51    x3 M x hx (fun q0 q1 e => ih q0 q1 (hx1 _ e) hE) (fun q0 e => by cases hx2 _ e; exact hE)
set_option maxRecDepth 100000 in
set_option maxHeartbeats 4000000 in
theorem s_X9_ground_L89 (x3 : Int32) (M : Mem) {Po : Po_} (x : (Int32 × Mem) ⊕ (Mem)) (h : X9_ground_L89  (x3, M) = some x) (hI : ∀ (ix3 : Int32) (iM : Mem), x = .inl (ix3, iM) → T RX9 cX9_ground 4 (some .int) 0 6 0 0 false Po 89 [aR (some 0), aU, aU, aI ix3] [] LAYM rfm iM 0 0) (hE0 : ∀ (eM : Mem), x = .inr eM → T RX9 cX9_ground 4 (some .int) 0 6 0 0 false Po 127 [aR (some 0), aU, aU, aU] [] LAYM rfm eM 0 0) : T RX9 cX9_ground 4 (some .int) 0 6 0 0 false Po 89 [aR (some 0), aU, aU, aI x3] [] LAYM rfm M 0 0 := by
  unfold X9_ground_L89 at h
  simp only at h
  refine T_iload_n dX9_ground_89 rfl ?_
  refine T_iconst dX9_ground_90 ic_4 ?_
  refine T_icmp_ge (tgt := 127) dX9_ground_91 (by decide) (fun hc => ?_) (fun hc => ?_)
  · have h := it_pos hc h
    obtain rfl := sm1 h
    refine T_mask [true, true, true, false] rfl ?_
    exact hE0 _ rfl
  · have h := it_neg hc h
    refine T_aload_n dX9_ground_94 rfl ?_
    refine T_getR dX9_ground_95 clOK_X9 fl_X9_35 lyM_0 rfl rfl ?_
    refine T_iload_n dX9_ground_98 rfl ?_
    refine T_iload_n dX9_ground_99 rfl ?_
    refine T_aload_n dX9_ground_100 rfl ?_
    refine T_getI dX9_ground_101 clOK_X9 fl_X9_158 lyM_0 rfl ?_
    refine T_icmp_ge (tgt := 119) dX9_ground_104 (by decide) (fun hc => ?_) (fun hc => ?_)
    · have h := it_pos hc h
      refine T_iconst dX9_ground_119 ic_0 ?_
      obtain ⟨hi_27, h⟩ := chk_some h
      obtain ⟨M_25, eM_26, h⟩ := lett_some h
      refine T_iast dX9_ground_120 lyM_8 (inb_in hi_27) eM_26 ?_
      obtain ⟨x_28, ex_29, h⟩ := lett_some h
      refine T_iinc (L' := [aR (some 0), aU, aU, aI x_28]) dX9_ground_121 rfl (ic_inc ic_1 ex_29) (Nat.le_of_ble_eq_true rfl) rfl ?_
      refine T_goto (tgt := 89) dX9_ground_124 (by decide) ?_
      obtain rfl := sm1 h
      exact hI _ _ rfl
    · have h := it_neg hc h
      refine T_aload_n dX9_ground_107 rfl ?_
      refine T_getR dX9_ground_108 clOK_X9 fl_X9_41 lyM_0 rfl rfl ?_
      refine T_bipush dX9_ground_111 bp_16 ?_
      refine T_iload_n dX9_ground_113 rfl ?_
      refine T_iadd dX9_ground_114 ?_
      obtain ⟨hi_30, h⟩ := chk_some h
      refine T_iald dX9_ground_115 lyM_10 (inb_in hi_30) ?_
      refine T_goto (tgt := 120) dX9_ground_116 (by decide) ?_
      obtain ⟨hi_33, h⟩ := chk_some h
      obtain ⟨M_31, eM_32, h⟩ := lett_some h
      refine T_iast dX9_ground_120 lyM_8 (inb_in hi_33) eM_32 ?_
      obtain ⟨x_34, ex_35, h⟩ := lett_some h
      refine T_iinc (L' := [aR (some 0), aU, aU, aI x_34]) dX9_ground_121 rfl (ic_inc ic_1 ex_35) (Nat.le_of_ble_eq_true rfl) rfl ?_
      refine T_goto (tgt := 89) dX9_ground_124 (by decide) ?_
      obtain rfl := sm1 h
      exact hI _ _ rfl
set_option maxRecDepth 100000 in
set_option maxHeartbeats 4000000 in
theorem l_X9_ground_L89 {Po : Po_} (eM : Mem) : ∀ (k : Nat) (x3 : Int32) (M : Mem), loop (X9_ground_L89 ) k (x3, M) = some eM → (T RX9 cX9_ground 4 (some .int) 0 6 0 0 false Po 127 [aR (some 0), aU, aU, aU] [] LAYM rfm eM 0 0) → T RX9 cX9_ground 4 (some .int) 0 6 0 0 false Po 89 [aR (some 0), aU, aU, aI x3] [] LAYM rfm M 0 0 := by
  intro k
  induction k with
  | zero => intro x3 M h; cases h
  | succ k ih =>
    intro x3 M h hE
    obtain ⟨x, hx, hx1, hx2⟩ := loop_succ h
    exact s_X9_ground_L89    x3 M x hx (fun q0 q1 e => ih q0 q1 (hx1 _ e) hE) (fun q0 e => by cases hx2 _ e; exact hE)
set_option maxRecDepth 100000 in
set_option maxHeartbeats 4000000 in
theorem s_X9_ground_L129 (x3 : Int32) (M : Mem) {Po : Po_} (x : (Int32 × Mem) ⊕ (Mem)) (h : X9_ground_L129  (x3, M) = some x) (hI : ∀ (ix3 : Int32) (iM : Mem), x = .inl (ix3, iM) → T RX9 cX9_ground 4 (some .int) 0 6 0 0 false Po 129 [aR (some 0), aU, aU, aI ix3] [] LAYM rfm iM 0 0) (hE0 : ∀ (eM : Mem), x = .inr eM → T RX9 cX9_ground 4 (some .int) 0 6 0 0 false Po 158 [aR (some 0), aU, aU, aU] [] LAYM rfm eM 0 0) : T RX9 cX9_ground 4 (some .int) 0 6 0 0 false Po 129 [aR (some 0), aU, aU, aI x3] [] LAYM rfm M 0 0 := by
  unfold X9_ground_L129 at h
  simp only at h
  refine T_iload_n dX9_ground_129 rfl ?_
  refine T_aload_n dX9_ground_130 rfl ?_
  refine T_getI dX9_ground_131 clOK_X9 fl_X9_161 lyM_0 rfl ?_
  refine T_icmp_ge (tgt := 158) dX9_ground_134 (by decide) (fun hc => ?_) (fun hc => ?_)
  · have h := it_pos hc h
    obtain rfl := sm1 h
    refine T_mask [true, true, true, false] rfl ?_
    exact hE0 _ rfl
  · have h := it_neg hc h
    refine T_aload_n dX9_ground_137 rfl ?_
    refine T_getR dX9_ground_138 clOK_X9 fl_X9_38 lyM_0 rfl rfl ?_
    refine T_iload_n dX9_ground_141 rfl ?_
    refine T_aload_n dX9_ground_142 rfl ?_
    refine T_getR dX9_ground_143 clOK_X9 fl_X9_41 lyM_0 rfl rfl ?_
    refine T_bipush dX9_ground_146 bp_20 ?_
    refine T_iload_n dX9_ground_148 rfl ?_
    refine T_iadd dX9_ground_149 ?_
    obtain ⟨hi_37, h⟩ := chk_some h
    refine T_iald dX9_ground_150 lyM_10 (inb_in hi_37) ?_
    obtain ⟨hi_40, h⟩ := chk_some h
    obtain ⟨M_38, eM_39, h⟩ := lett_some h
    refine T_iast dX9_ground_151 lyM_9 (inb_in hi_40) eM_39 ?_
    obtain ⟨x_41, ex_42, h⟩ := lett_some h
    refine T_iinc (L' := [aR (some 0), aU, aU, aI x_41]) dX9_ground_152 rfl (ic_inc ic_1 ex_42) (Nat.le_of_ble_eq_true rfl) rfl ?_
    refine T_goto (tgt := 129) dX9_ground_155 (by decide) ?_
    obtain rfl := sm1 h
    exact hI _ _ rfl
set_option maxRecDepth 100000 in
set_option maxHeartbeats 4000000 in
theorem l_X9_ground_L129 {Po : Po_} (eM : Mem) : ∀ (k : Nat) (x3 : Int32) (M : Mem), loop (X9_ground_L129 ) k (x3, M) = some eM → (T RX9 cX9_ground 4 (some .int) 0 6 0 0 false Po 158 [aR (some 0), aU, aU, aU] [] LAYM rfm eM 0 0) → T RX9 cX9_ground 4 (some .int) 0 6 0 0 false Po 129 [aR (some 0), aU, aU, aI x3] [] LAYM rfm M 0 0 := by
  intro k
  induction k with
  | zero => intro x3 M h; cases h
  | succ k ih =>
    intro x3 M h hE
    obtain ⟨x, hx, hx1, hx2⟩ := loop_succ h
    exact s_X9_ground_L129    x3 M x hx (fun q0 q1 e => ih q0 q1 (hx1 _ e) hE) (fun q0 e => by cases hx2 _ e; exact hE)
set_option maxRecDepth 100000 in
set_option maxHeartbeats 4000000 in
theorem s_X9_ground_L170 (x3 : Int32) (M : Mem) {Po : Po_} (x : (Int32 × Mem) ⊕ (Int32 × Mem)) (h : X9_ground_L170  (x3, M) = some x) (hI : ∀ (ix3 : Int32) (iM : Mem), x = .inl (ix3, iM) → T RX9 cX9_ground 4 (some .int) 0 6 0 0 false Po 170 [aR (some 0), aU, aU, aI ix3] [] LAYM rfm iM 0 0) (hE0 : ∀ (er : Int32) (eM : Mem), x = .inr (er, eM) → Po (vI er) LAYM rfm eM) : T RX9 cX9_ground 4 (some .int) 0 6 0 0 false Po 170 [aR (some 0), aU, aU, aI x3] [] LAYM rfm M 0 0 := by
  unfold X9_ground_L170 at h
  simp only at h
  refine T_iload_n dX9_ground_170 rfl ?_
  refine T_iconst dX9_ground_171 ic_3 ?_
  refine T_icmp_ge (tgt := 188) dX9_ground_172 (by decide) (fun hc => ?_) (fun hc => ?_)
  · have h := it_pos hc h
    refine T_aload_n dX9_ground_188 rfl ?_
    refine T_getI dX9_ground_189 clOK_X9 fl_X9_155 lyM_0 rfl ?_
    obtain rfl := sm1 h
    exact T_iret dX9_ground_192 (hE0 _ _ rfl)
  · have h := it_neg hc h
    refine T_aload_n dX9_ground_175 rfl ?_
    refine T_getR dX9_ground_176 clOK_X9 fl_X9_53 lyM_0 rfl rfl ?_
    refine T_iload_n dX9_ground_179 rfl ?_
    refine T_iconst dX9_ground_180 ic_0 ?_
    obtain ⟨hi_50, h⟩ := chk_some h
    obtain ⟨M_48, eM_49, h⟩ := lett_some h
    refine T_iast dX9_ground_181 lyM_14 (inb_in hi_50) eM_49 ?_
    obtain ⟨x_51, ex_52, h⟩ := lett_some h
    refine T_iinc (L' := [aR (some 0), aU, aU, aI x_51]) dX9_ground_182 rfl (ic_inc ic_1 ex_52) (Nat.le_of_ble_eq_true rfl) rfl ?_
    refine T_goto (tgt := 170) dX9_ground_185 (by decide) ?_
    obtain rfl := sm1 h
    exact hI _ _ rfl
set_option maxRecDepth 100000 in
set_option maxHeartbeats 4000000 in
theorem l_X9_ground_L170 {Po : Po_} (er : Int32) (eM : Mem) : ∀ (k : Nat) (x3 : Int32) (M : Mem), loop (X9_ground_L170 ) k (x3, M) = some (er, eM) → (Po (vI er) LAYM rfm eM) → T RX9 cX9_ground 4 (some .int) 0 6 0 0 false Po 170 [aR (some 0), aU, aU, aI x3] [] LAYM rfm M 0 0 := by
  intro k
  induction k with
  | zero => intro x3 M h; cases h
  | succ k ih =>
    intro x3 M h hE
    obtain ⟨x, hx, hx1, hx2⟩ := loop_succ h
    exact s_X9_ground_L170    x3 M x hx (fun q0 q1 e => ih q0 q1 (hx1 _ e) hE) (fun q0 q1 e => by cases hx2 _ e; exact hE)
set_option maxRecDepth 100000 in
set_option maxHeartbeats 4000000 in
theorem m_X9_ground (M : Mem) (x1 : Int32) (r : Int32) (M' : Mem) (h : F_X9_ground M x1 = some (r, M')) : Cal yX9_ground cX9_ground 4 (some .int) 0 6 0 0 false [vR (some 0), vI x1] LAYM rfm M (eqp (vI r) LAYM rfm M') := by
  refine Cal.of (by decide +kernel) (Nat.le_of_ble_eq_true rfl) (fun h => by cases h) ?_
  unfold F_X9_ground at h
  show T RX9 cX9_ground 4 (some .int) 0 6 0 0 false (eqp (vI r) LAYM rfm M') 0 [aR (some 0), aI x1, aU, aU] [] LAYM rfm M 0 0
  refine T_aload_n dX9_ground_0 rfl ?_
  refine T_iload_n dX9_ground_1 rfl ?_
  obtain ⟨r_1, M_2, hc_3, h⟩ := bd2_some h
  refine T_cvi (as := [vI x1]) dX9_ground_2 cw_X9_askedText ml_X9_111 mi_X9_askedText se_X9_askedText lyM_0 rfl (by decide) rfl (Nat.le_of_ble_eq_true rfl) (Nat.le_of_ble_eq_true rfl) (m_X9_askedText  M x1  _ _ hc_3) ?_
  refine T_istore_n (i := 2) (L' := [aR (some 0), aI x1, aI r_1, aU]) dX9_ground_5 rfl (Nat.le_of_ble_eq_true rfl) rfl ?_
  refine T_iload_n dX9_ground_6 rfl ?_
  refine T_if_ge (tgt := 12) dX9_ground_7 (by decide) (fun hc => ?_) (fun hc => ?_)
  · have h := it_pos hc h
    refine T_aload_n dX9_ground_12 rfl ?_
    refine T_iload_n dX9_ground_13 rfl ?_
    obtain ⟨r_4, M_5, hc_6, h⟩ := bd2_some h
    refine T_cvi (as := [vI x1]) dX9_ground_14 cw_X9_goesOn ml_X9_152 mi_X9_goesOn se_X9_goesOn lyM_0 rfl (by decide) rfl (Nat.le_of_ble_eq_true rfl) (Nat.le_of_ble_eq_true rfl) (m_X9_goesOn  M_2 x1  _ _ hc_6) ?_
    refine T_bipush dX9_ground_17 bp_m9 ?_
    refine T_icmp_eq (tgt := 25) dX9_ground_19 (by decide) (fun hc => ?_) (fun hc => ?_)
    · have h := it_pos hc h
      refine T_aload_n dX9_ground_25 rfl ?_
      refine T_aload_n dX9_ground_26 rfl ?_
      refine T_getI dX9_ground_27 clOK_X9 fl_X9_120 lyM_0 rfl ?_
      obtain ⟨M_7, eM_8, h⟩ := lett_some h
      refine T_putI dX9_ground_30 clOK_X9 fl_X9_155 (Or.inl rfl) lyM_0 rfl rfl eM_8 ?_
      refine T_aload_n dX9_ground_33 rfl ?_
      refine T_aload_n dX9_ground_34 rfl ?_
      refine T_getI dX9_ground_35 clOK_X9 fl_X9_126 lyM_0 rfl ?_
      obtain ⟨M_9, eM_10, h⟩ := lett_some h
      refine T_putI dX9_ground_38 clOK_X9 fl_X9_158 (Or.inl rfl) lyM_0 rfl rfl eM_10 ?_
      refine T_aload_n dX9_ground_41 rfl ?_
      refine T_aload_n dX9_ground_42 rfl ?_
      refine T_getI dX9_ground_43 clOK_X9 fl_X9_129 lyM_0 rfl ?_
      obtain ⟨M_11, eM_12, h⟩ := lett_some h
      refine T_putI dX9_ground_46 clOK_X9 fl_X9_161 (Or.inl rfl) lyM_0 rfl rfl eM_12 ?_
      refine T_iconst dX9_ground_49 ic_0 ?_
      refine T_istore_n (i := 3) (L' := [aR (some 0), aI x1, aI r_1, aI 0]) dX9_ground_50 rfl (Nat.le_of_ble_eq_true rfl) rfl ?_
      obtain ⟨M_24, hl, h⟩ := bd1_some h
      refine T_mask [true, false, false, true] rfl ?_
      refine l_X9_ground_L51    _ FU 0 M_11 hl ?_
      refine T_iconst dX9_ground_87 ic_0 ?_
      refine T_istore_n (i := 3) (L' := [aR (some 0), aU, aU, aI 0]) dX9_ground_88 rfl (Nat.le_of_ble_eq_true rfl) rfl ?_
      obtain ⟨M_36, hl, h⟩ := bd1_some h
      refine l_X9_ground_L89    _ FU 0 M_24 hl ?_
      refine T_iconst dX9_ground_127 ic_0 ?_
      refine T_istore_n (i := 3) (L' := [aR (some 0), aU, aU, aI 0]) dX9_ground_128 rfl (Nat.le_of_ble_eq_true rfl) rfl ?_
      obtain ⟨M_43, hl, h⟩ := bd1_some h
      refine l_X9_ground_L129    _ FU 0 M_36 hl ?_
      refine T_aload_n dX9_ground_158 rfl ?_
      refine T_iconst dX9_ground_159 ic_0 ?_
      obtain ⟨M_44, eM_45, h⟩ := lett_some h
      refine T_putI dX9_ground_160 clOK_X9 fl_X9_164 (Or.inl rfl) lyM_0 rfl rfl eM_45 ?_
      refine T_aload_n dX9_ground_163 rfl ?_
      refine T_iconst dX9_ground_164 ic_0 ?_
      obtain ⟨M_46, eM_47, h⟩ := lett_some h
      refine T_putI dX9_ground_165 clOK_X9 fl_X9_167 (Or.inl rfl) lyM_0 rfl rfl eM_47 ?_
      refine T_iconst dX9_ground_168 ic_0 ?_
      refine T_istore_n (i := 3) (L' := [aR (some 0), aU, aU, aI 0]) dX9_ground_169 rfl (Nat.le_of_ble_eq_true rfl) rfl ?_
      exact l_X9_ground_L170    _ _ FU 0 M_46 h ⟨rfl, rfl, rfl, rfl⟩
    · have h := it_neg hc h
      refine T_bipush dX9_ground_22 bp_m4 ?_
      obtain ⟨rfl, rfl⟩ := sm2 h
      exact T_iret dX9_ground_24 ⟨rfl, rfl, rfl, rfl⟩
  · have h := it_neg hc h
    refine T_iload_n dX9_ground_10 rfl ?_
    obtain ⟨rfl, rfl⟩ := sm2 h
    exact T_iret dX9_ground_11 ⟨rfl, rfl, rfl, rfl⟩
def F_X9_isCell (M : Mem) (x1 : Int32) : Option (Int32) :=
 bd1 (F_X9_in x1 0 ((gI M 0 11) - 1)) fun r_1 => chk (r_1 = 0 ∨ r_1 = 1) (some r_1)
set_option maxRecDepth 100000 in
set_option maxHeartbeats 4000000 in
theorem m_X9_isCell (M : Mem) (x1 : Int32) (r : Int32) (h : F_X9_isCell M x1 = some r) : Cal yX9_isCell cX9_isCell 2 (some .boolean) 0 2 0 0 false [vR (some 0), vI x1] LAYM rfm M (eqp (vI r) LAYM rfm M) := by
  refine Cal.of (by decide +kernel) (Nat.le_of_ble_eq_true rfl) (fun h => by cases h) ?_
  unfold F_X9_isCell at h
  show T RX9 cX9_isCell 2 (some .boolean) 0 2 0 0 false (eqp (vI r) LAYM rfm M) 0 [aR (some 0), aI x1] [] LAYM rfm M 0 0
  refine T_iload_n dX9_isCell_0 rfl ?_
  refine T_iconst dX9_isCell_1 ic_0 ?_
  refine T_aload_n dX9_isCell_2 rfl ?_
  refine T_getI dX9_isCell_3 clOK_X9 fl_X9_155 lyM_0 rfl ?_
  refine T_iconst dX9_isCell_6 ic_1 ?_
  refine T_isub dX9_isCell_7 ?_
  obtain ⟨r_1, hc_2, h⟩ := bd1_some h
  refine T_csi (as := [vI x1, vI 0, vI ((gI M 0 11) - 1)]) dX9_isCell_8 cw_X9_in ml_X9_79 mt_X9_in rfl (Nat.le_of_ble_eq_true rfl) (Nat.le_of_ble_eq_true rfl) (m_X9_in M x1 0 ((gI M 0 11) - 1)  _ hc_2) ?_
  obtain ⟨hb_3, h⟩ := chk_some h
  obtain rfl := sm1 h
  exact T_zret dX9_isCell_11 hb_3 ⟨rfl, rfl, rfl, rfl⟩
def F_X9_isLaw (M : Mem) (x1 : Int32) : Option (Int32) :=
 bd1 (F_X9_in x1 0 ((gI M 0 12) - 1)) fun r_1 => chk (r_1 = 0 ∨ r_1 = 1) (some r_1)
set_option maxRecDepth 100000 in
set_option maxHeartbeats 4000000 in
theorem m_X9_isLaw (M : Mem) (x1 : Int32) (r : Int32) (h : F_X9_isLaw M x1 = some r) : Cal yX9_isLaw cX9_isLaw 2 (some .boolean) 0 2 0 0 false [vR (some 0), vI x1] LAYM rfm M (eqp (vI r) LAYM rfm M) := by
  refine Cal.of (by decide +kernel) (Nat.le_of_ble_eq_true rfl) (fun h => by cases h) ?_
  unfold F_X9_isLaw at h
  show T RX9 cX9_isLaw 2 (some .boolean) 0 2 0 0 false (eqp (vI r) LAYM rfm M) 0 [aR (some 0), aI x1] [] LAYM rfm M 0 0
  refine T_iload_n dX9_isLaw_0 rfl ?_
  refine T_iconst dX9_isLaw_1 ic_0 ?_
  refine T_aload_n dX9_isLaw_2 rfl ?_
  refine T_getI dX9_isLaw_3 clOK_X9 fl_X9_161 lyM_0 rfl ?_
  refine T_iconst dX9_isLaw_6 ic_1 ?_
  refine T_isub dX9_isLaw_7 ?_
  obtain ⟨r_1, hc_2, h⟩ := bd1_some h
  refine T_csi (as := [vI x1, vI 0, vI ((gI M 0 12) - 1)]) dX9_isLaw_8 cw_X9_in ml_X9_79 mt_X9_in rfl (Nat.le_of_ble_eq_true rfl) (Nat.le_of_ble_eq_true rfl) (m_X9_in M x1 0 ((gI M 0 12) - 1)  _ hc_2) ?_
  obtain ⟨hb_3, h⟩ := chk_some h
  obtain rfl := sm1 h
  exact T_zret dX9_isLaw_11 hb_3 ⟨rfl, rfl, rfl, rfl⟩
def X9_besides_J60 (M : Mem) (x1 : Int32) (s0 : Int32) (s1 : Int32) : Option (Int32) :=
 if (gI M 0 11) ≤ (x1 + (gI M 0 10)) then some ((s1 ||| s0) ||| 0)
 else some ((s1 ||| s0) ||| (ish 1 (x1 + (gI M 0 10))))
def X9_besides_J39 (M : Mem) (x1 : Int32) (s0 : Int32) (s1 : Int32) : Option (Int32) :=
 if x1 < (gI M 0 10) then X9_besides_J60 M x1 0 (s1 ||| s0)
 else X9_besides_J60 M x1 (ish 1 (x1 - (gI M 0 10))) (s1 ||| s0)
def X9_besides_J20 (M : Mem) (x1 : Int32) (x2 : Int32) (s0 : Int32) : Option (Int32) :=
 if ((gI M 0 10) - 1) ≤ x2 then X9_besides_J39 M x1 0 s0
 else X9_besides_J39 M x1 (ish 1 (x1 + 1)) s0
def F_X9_besides (M : Mem) (x1 : Int32) : Option (Int32) :=
 chk (¬ (gI M 0 10) = 0) (lett (irm x1 (gI M 0 10)) fun x_2 => if x_2 ≤ 0 then X9_besides_J20 M x1 x_2 0
 else X9_besides_J20 M x1 x_2 (ish 1 (x1 - 1)))
set_option maxRecDepth 100000 in
set_option maxHeartbeats 4000000 in
theorem j_X9_besides_J60 (M : Mem) (x1 : Int32) (s0 : Int32) (s1 : Int32) (r : Int32) (h : X9_besides_J60 M x1 s0 s1 = some r) : T RX9 cX9_besides 3 (some .int) 0 1 0 0 false (eqp (vI r) LAYM rfm M) 60 [aR (some 0), aI x1, aU] [vI s0, vI s1] LAYM rfm M 0 0 := by
  unfold X9_besides_J60 at h
  refine T_ior dX9_besides_60 ?_
  refine T_iload_n dX9_besides_61 rfl ?_
  refine T_aload_n dX9_besides_62 rfl ?_
  refine T_getI dX9_besides_63 clOK_X9 fl_X9_158 lyM_0 rfl ?_
  refine T_iadd dX9_besides_66 ?_
  refine T_aload_n dX9_besides_67 rfl ?_
  refine T_getI dX9_besides_68 clOK_X9 fl_X9_155 lyM_0 rfl ?_
  refine T_icmp_ge (tgt := 85) dX9_besides_71 (by decide) (fun hc => ?_) (fun hc => ?_)
  · have h := it_pos hc h
    refine T_iconst dX9_besides_85 ic_0 ?_
    refine T_ior dX9_besides_86 ?_
    obtain rfl := sm1 h
    exact T_iret dX9_besides_87 ⟨rfl, rfl, rfl, rfl⟩
  · have h := it_neg hc h
    refine T_iconst dX9_besides_74 ic_1 ?_
    refine T_iload_n dX9_besides_75 rfl ?_
    refine T_aload_n dX9_besides_76 rfl ?_
    refine T_getI dX9_besides_77 clOK_X9 fl_X9_158 lyM_0 rfl ?_
    refine T_iadd dX9_besides_80 ?_
    refine T_ishl dX9_besides_81 ?_
    refine T_goto (tgt := 86) dX9_besides_82 (by decide) ?_
    refine T_ior dX9_besides_86 ?_
    obtain rfl := sm1 h
    exact T_iret dX9_besides_87 ⟨rfl, rfl, rfl, rfl⟩
set_option maxRecDepth 100000 in
set_option maxHeartbeats 4000000 in
theorem j_X9_besides_J39 (M : Mem) (x1 : Int32) (s0 : Int32) (s1 : Int32) (r : Int32) (h : X9_besides_J39 M x1 s0 s1 = some r) : T RX9 cX9_besides 3 (some .int) 0 1 0 0 false (eqp (vI r) LAYM rfm M) 39 [aR (some 0), aI x1, aU] [vI s0, vI s1] LAYM rfm M 0 0 := by
  unfold X9_besides_J39 at h
  refine T_ior dX9_besides_39 ?_
  refine T_iload_n dX9_besides_40 rfl ?_
  refine T_aload_n dX9_besides_41 rfl ?_
  refine T_getI dX9_besides_42 clOK_X9 fl_X9_158 lyM_0 rfl ?_
  refine T_icmp_lt (tgt := 59) dX9_besides_45 (by decide) (fun hc => ?_) (fun hc => ?_)
  · have h := it_pos hc h
    refine T_iconst dX9_besides_59 ic_0 ?_
    exact j_X9_besides_J60  M x1 0 (s1 ||| s0)  _ h
  · have h := it_neg hc h
    refine T_iconst dX9_besides_48 ic_1 ?_
    refine T_iload_n dX9_besides_49 rfl ?_
    refine T_aload_n dX9_besides_50 rfl ?_
    refine T_getI dX9_besides_51 clOK_X9 fl_X9_158 lyM_0 rfl ?_
    refine T_isub dX9_besides_54 ?_
    refine T_ishl dX9_besides_55 ?_
    refine T_goto (tgt := 60) dX9_besides_56 (by decide) ?_
    exact j_X9_besides_J60  M x1 (ish 1 (x1 - (gI M 0 10))) (s1 ||| s0)  _ h
set_option maxRecDepth 100000 in
set_option maxHeartbeats 4000000 in
theorem j_X9_besides_J20 (M : Mem) (x1 : Int32) (x2 : Int32) (s0 : Int32) (r : Int32) (h : X9_besides_J20 M x1 x2 s0 = some r) : T RX9 cX9_besides 3 (some .int) 0 1 0 0 false (eqp (vI r) LAYM rfm M) 20 [aR (some 0), aI x1, aI x2] [vI s0] LAYM rfm M 0 0 := by
  unfold X9_besides_J20 at h
  refine T_iload_n dX9_besides_20 rfl ?_
  refine T_aload_n dX9_besides_21 rfl ?_
  refine T_getI dX9_besides_22 clOK_X9 fl_X9_158 lyM_0 rfl ?_
  refine T_iconst dX9_besides_25 ic_1 ?_
  refine T_isub dX9_besides_26 ?_
  refine T_icmp_ge (tgt := 38) dX9_besides_27 (by decide) (fun hc => ?_) (fun hc => ?_)
  · have h := it_pos hc h
    refine T_iconst dX9_besides_38 ic_0 ?_
    refine T_mask [true, true, false] rfl ?_
    exact j_X9_besides_J39  M x1 0 s0  _ h
  · have h := it_neg hc h
    refine T_iconst dX9_besides_30 ic_1 ?_
    refine T_iload_n dX9_besides_31 rfl ?_
    refine T_iconst dX9_besides_32 ic_1 ?_
    refine T_iadd dX9_besides_33 ?_
    refine T_ishl dX9_besides_34 ?_
    refine T_goto (tgt := 39) dX9_besides_35 (by decide) ?_
    refine T_mask [true, true, false] rfl ?_
    exact j_X9_besides_J39  M x1 (ish 1 (x1 + 1)) s0  _ h
set_option maxRecDepth 100000 in
set_option maxHeartbeats 4000000 in
theorem m_X9_besides (M : Mem) (x1 : Int32) (r : Int32) (h : F_X9_besides M x1 = some r) : Cal yX9_besides cX9_besides 3 (some .int) 0 1 0 0 false [vR (some 0), vI x1] LAYM rfm M (eqp (vI r) LAYM rfm M) := by
  refine Cal.of (by decide +kernel) (Nat.le_of_ble_eq_true rfl) (fun h => by cases h) ?_
  unfold F_X9_besides at h
  show T RX9 cX9_besides 3 (some .int) 0 1 0 0 false (eqp (vI r) LAYM rfm M) 0 [aR (some 0), aI x1, aU] [] LAYM rfm M 0 0
  refine T_iload_n dX9_besides_0 rfl ?_
  refine T_aload_n dX9_besides_1 rfl ?_
  refine T_getI dX9_besides_2 clOK_X9 fl_X9_158 lyM_0 rfl ?_
  obtain ⟨hz_1, h⟩ := chk_some h
  refine T_irem dX9_besides_5 hz_1 ?_
  obtain ⟨x_2, ex_3, h⟩ := lett_some h
  refine T_topI ex_3 ?_
  refine T_istore_n (i := 2) (L' := [aR (some 0), aI x1, aI x_2]) dX9_besides_6 rfl (Nat.le_of_ble_eq_true rfl) rfl ?_
  refine T_iload_n dX9_besides_7 rfl ?_
  refine T_if_le (tgt := 19) dX9_besides_8 (by decide) (fun hc => ?_) (fun hc => ?_)
  · have h := it_pos hc h
    refine T_iconst dX9_besides_19 ic_0 ?_
    exact j_X9_besides_J20  M x1 x_2 0  _ h
  · have h := it_neg hc h
    refine T_iconst dX9_besides_11 ic_1 ?_
    refine T_iload_n dX9_besides_12 rfl ?_
    refine T_iconst dX9_besides_13 ic_1 ?_
    refine T_isub dX9_besides_14 ?_
    refine T_ishl dX9_besides_15 ?_
    refine T_goto (tgt := 20) dX9_besides_16 (by decide) ?_
    exact j_X9_besides_J20  M x1 x_2 (ish 1 (x1 - 1))  _ h
def X9_grown_L19 (M : Mem) (x1 : Int32) (x4 : Int32) : Int32 × Int32 → Option ((Int32 × Int32) ⊕ (Int32))
  | (x3, x5) =>
    if (gI M 0 11) ≤ x5 then some (.inr x3)
    else bd1 (F_X9_has x4 x5) fun r_3 => if r_3 = 0 then lett (x3 ||| 0) fun x_5 => lett (x5 + 1) fun x_7 => some (.inl (x_5, x_7))
    else bd1 (F_X9_besides M x5) fun r_9 => lett (x3 ||| (r_9 &&& x1)) fun x_11 => lett (x5 + 1) fun x_13 => some (.inl (x_11, x_13))
def X9_grown_L7 (M : Mem) (x1 : Int32) : Int32 × Int32 → Option ((Int32 × Int32) ⊕ (Int32))
  | (x3, x4) =>
    if x3 = x4 then some (.inr x3)
    else bd1 (loop (X9_grown_L19 M x1 x3) FU (x3, 0)) fun x_15 => some (.inl (x_15, x3))
def F_X9_grown (M : Mem) (x1 : Int32) (x2 : Int32) : Option (Int32) :=
 lett (ish 1 x2) fun x_1 => loop (X9_grown_L7 M x1) FU (x_1, 0)
set_option maxRecDepth 100000 in
set_option maxHeartbeats 4000000 in
theorem s_X9_grown_L19 (M : Mem) (x1 : Int32) (x4 : Int32) (x3 : Int32) (x5 : Int32) {Po : Po_} (x : (Int32 × Int32) ⊕ (Int32)) (h : X9_grown_L19 M x1 x4 (x3, x5) = some x) (hI : ∀ (ix3 : Int32) (ix5 : Int32), x = .inl (ix3, ix5) → T RX9 cX9_grown 6 (some .int) 0 2 0 0 false Po 19 [aR (some 0), aI x1, aU, aI ix3, aI x4, aI ix5] [] LAYM rfm M 0 0) (hE0 : ∀ (e3 : Int32), x = .inr e3 → T RX9 cX9_grown 6 (some .int) 0 2 0 0 false Po 59 [aR (some 0), aI x1, aU, aI e3, aI x4, aU] [] LAYM rfm M 0 0) : T RX9 cX9_grown 6 (some .int) 0 2 0 0 false Po 19 [aR (some 0), aI x1, aU, aI x3, aI x4, aI x5] [] LAYM rfm M 0 0 := by
  unfold X9_grown_L19 at h
  simp only at h
  refine T_iload dX9_grown_19 rfl ?_
  refine T_aload_n dX9_grown_21 rfl ?_
  refine T_getI dX9_grown_22 clOK_X9 fl_X9_155 lyM_0 rfl ?_
  refine T_icmp_ge (tgt := 59) dX9_grown_25 (by decide) (fun hc => ?_) (fun hc => ?_)
  · have h := it_pos hc h
    obtain rfl := sm1 h
    refine T_mask [true, true, true, true, true, false] rfl ?_
    exact hE0 _ rfl
  · have h := it_neg hc h
    refine T_iload_n dX9_grown_28 rfl ?_
    refine T_iload dX9_grown_29 rfl ?_
    refine T_iload dX9_grown_31 rfl ?_
    obtain ⟨r_3, hc_4, h⟩ := bd1_some h
    refine T_csi (as := [vI x4, vI x5]) dX9_grown_33 cw_X9_has ml_X9_170 mt_X9_has rfl (Nat.le_of_ble_eq_true rfl) (Nat.le_of_ble_eq_true rfl) (m_X9_has M x4 x5  _ hc_4) ?_
    refine T_if_eq (tgt := 50) dX9_grown_36 (by decide) (fun hc => ?_) (fun hc => ?_)
    · have h := it_pos hc h
      refine T_iconst dX9_grown_50 ic_0 ?_
      refine T_ior dX9_grown_51 ?_
      obtain ⟨x_5, ex_6, h⟩ := lett_some h
      refine T_topI ex_6 ?_
      refine T_istore_n (i := 3) (L' := [aR (some 0), aI x1, aU, aI x_5, aI x4, aI x5]) dX9_grown_52 rfl (Nat.le_of_ble_eq_true rfl) rfl ?_
      obtain ⟨x_7, ex_8, h⟩ := lett_some h
      refine T_iinc (L' := [aR (some 0), aI x1, aU, aI x_5, aI x4, aI x_7]) dX9_grown_53 rfl (ic_inc ic_1 ex_8) (Nat.le_of_ble_eq_true rfl) rfl ?_
      refine T_goto (tgt := 19) dX9_grown_56 (by decide) ?_
      obtain rfl := sm1 h
      exact hI _ _ rfl
    · have h := it_neg hc h
      refine T_aload_n dX9_grown_39 rfl ?_
      refine T_iload dX9_grown_40 rfl ?_
      obtain ⟨r_9, hc_10, h⟩ := bd1_some h
      refine T_cvi (as := [vI x5]) dX9_grown_42 cw_X9_besides ml_X9_173 mi_X9_besides se_X9_besides lyM_0 rfl (by decide) rfl (Nat.le_of_ble_eq_true rfl) (Nat.le_of_ble_eq_true rfl) (m_X9_besides  M x5  _ hc_10) ?_
      refine T_iload_n dX9_grown_45 rfl ?_
      refine T_iand dX9_grown_46 ?_
      refine T_goto (tgt := 51) dX9_grown_47 (by decide) ?_
      refine T_ior dX9_grown_51 ?_
      obtain ⟨x_11, ex_12, h⟩ := lett_some h
      refine T_topI ex_12 ?_
      refine T_istore_n (i := 3) (L' := [aR (some 0), aI x1, aU, aI x_11, aI x4, aI x5]) dX9_grown_52 rfl (Nat.le_of_ble_eq_true rfl) rfl ?_
      obtain ⟨x_13, ex_14, h⟩ := lett_some h
      refine T_iinc (L' := [aR (some 0), aI x1, aU, aI x_11, aI x4, aI x_13]) dX9_grown_53 rfl (ic_inc ic_1 ex_14) (Nat.le_of_ble_eq_true rfl) rfl ?_
      refine T_goto (tgt := 19) dX9_grown_56 (by decide) ?_
      obtain rfl := sm1 h
      exact hI _ _ rfl
set_option maxRecDepth 100000 in
set_option maxHeartbeats 4000000 in
theorem l_X9_grown_L19 (M : Mem) (x1 : Int32) (x4 : Int32) {Po : Po_} (e3 : Int32) : ∀ (k : Nat) (x3 : Int32) (x5 : Int32), loop (X9_grown_L19 M x1 x4) k (x3, x5) = some e3 → (T RX9 cX9_grown 6 (some .int) 0 2 0 0 false Po 59 [aR (some 0), aI x1, aU, aI e3, aI x4, aU] [] LAYM rfm M 0 0) → T RX9 cX9_grown 6 (some .int) 0 2 0 0 false Po 19 [aR (some 0), aI x1, aU, aI x3, aI x4, aI x5] [] LAYM rfm M 0 0 := by
  intro k
  induction k with
  | zero => intro x3 x5 h; cases h
  | succ k ih =>
    intro x3 x5 h hE
    obtain ⟨x, hx, hx1, hx2⟩ := loop_succ h
    exact s_X9_grown_L19  M x1 x4  x3 x5 x hx (fun q0 q1 e => ih q0 q1 (hx1 _ e) hE) (fun q0 e => by cases hx2 _ e; exact hE)
set_option maxRecDepth 100000 in
set_option maxHeartbeats 4000000 in
theorem s_X9_grown_L7 (M : Mem) (x1 : Int32) (x3 : Int32) (x4 : Int32) {Po : Po_} (x : (Int32 × Int32) ⊕ (Int32)) (h : X9_grown_L7 M x1 (x3, x4) = some x) (hI : ∀ (ix3 : Int32) (ix4 : Int32), x = .inl (ix3, ix4) → T RX9 cX9_grown 6 (some .int) 0 2 0 0 false Po 7 [aR (some 0), aI x1, aU, aI ix3, aI ix4, aU] [] LAYM rfm M 0 0) (hE0 : ∀ (er : Int32), x = .inr er → Po (vI er) LAYM rfm M) : T RX9 cX9_grown 6 (some .int) 0 2 0 0 false Po 7 [aR (some 0), aI x1, aU, aI x3, aI x4, aU] [] LAYM rfm M 0 0 := by
  unfold X9_grown_L7 at h
  simp only at h
  refine T_iload_n dX9_grown_7 rfl ?_
  refine T_iload dX9_grown_8 rfl ?_
  refine T_icmp_eq (tgt := 62) dX9_grown_10 (by decide) (fun hc => ?_) (fun hc => ?_)
  · have h := it_pos hc h
    refine T_iload_n dX9_grown_62 rfl ?_
    obtain rfl := sm1 h
    exact T_iret dX9_grown_63 (hE0 _ rfl)
  · have h := it_neg hc h
    refine T_iload_n dX9_grown_13 rfl ?_
    refine T_istore (i := 4) (L' := [aR (some 0), aI x1, aU, aI x3, aI x3, aU]) dX9_grown_14 (Nat.le_of_ble_eq_true rfl) rfl ?_
    refine T_iconst dX9_grown_16 ic_0 ?_
    refine T_istore (i := 5) (L' := [aR (some 0), aI x1, aU, aI x3, aI x3, aI 0]) dX9_grown_17 (Nat.le_of_ble_eq_true rfl) rfl ?_
    obtain ⟨x_15, hl, h⟩ := bd1_some h
    refine l_X9_grown_L19  M x1 x3  _ FU x3 0 hl ?_
    refine T_goto (tgt := 7) dX9_grown_59 (by decide) ?_
    obtain rfl := sm1 h
    exact hI _ _ rfl
set_option maxRecDepth 100000 in
set_option maxHeartbeats 4000000 in
theorem l_X9_grown_L7 (M : Mem) (x1 : Int32) {Po : Po_} (er : Int32) : ∀ (k : Nat) (x3 : Int32) (x4 : Int32), loop (X9_grown_L7 M x1) k (x3, x4) = some er → (Po (vI er) LAYM rfm M) → T RX9 cX9_grown 6 (some .int) 0 2 0 0 false Po 7 [aR (some 0), aI x1, aU, aI x3, aI x4, aU] [] LAYM rfm M 0 0 := by
  intro k
  induction k with
  | zero => intro x3 x4 h; cases h
  | succ k ih =>
    intro x3 x4 h hE
    obtain ⟨x, hx, hx1, hx2⟩ := loop_succ h
    exact s_X9_grown_L7  M x1  x3 x4 x hx (fun q0 q1 e => ih q0 q1 (hx1 _ e) hE) (fun q0 e => by cases hx2 _ e; exact hE)
set_option maxRecDepth 100000 in
set_option maxHeartbeats 4000000 in
theorem m_X9_grown (M : Mem) (x1 : Int32) (x2 : Int32) (r : Int32) (h : F_X9_grown M x1 x2 = some r) : Cal yX9_grown cX9_grown 6 (some .int) 0 2 0 0 false [vR (some 0), vI x1, vI x2] LAYM rfm M (eqp (vI r) LAYM rfm M) := by
  refine Cal.of (by decide +kernel) (Nat.le_of_ble_eq_true rfl) (fun h => by cases h) ?_
  unfold F_X9_grown at h
  show T RX9 cX9_grown 6 (some .int) 0 2 0 0 false (eqp (vI r) LAYM rfm M) 0 [aR (some 0), aI x1, aI x2, aU, aU, aU] [] LAYM rfm M 0 0
  refine T_iconst dX9_grown_0 ic_1 ?_
  refine T_iload_n dX9_grown_1 rfl ?_
  refine T_ishl dX9_grown_2 ?_
  obtain ⟨x_1, ex_2, h⟩ := lett_some h
  refine T_topI ex_2 ?_
  refine T_istore_n (i := 3) (L' := [aR (some 0), aI x1, aI x2, aI x_1, aU, aU]) dX9_grown_3 rfl (Nat.le_of_ble_eq_true rfl) rfl ?_
  refine T_iconst dX9_grown_4 ic_0 ?_
  refine T_istore (i := 4) (L' := [aR (some 0), aI x1, aI x2, aI x_1, aI 0, aU]) dX9_grown_5 (Nat.le_of_ble_eq_true rfl) rfl ?_
  refine T_mask [true, true, false, true, true, true] rfl ?_
  exact l_X9_grown_L7  M x1  _ FU x_1 0 h ⟨rfl, rfl, rfl, rfl⟩
def X9_dugIn_L4 (M : Mem) (p0 : Nat) (x1 : Int32) : Int32 × Int32 → Option ((Int32 × Int32) ⊕ (Int32))
  | (x2, x3) =>
    if (nI 16) ≤ x3 then some (.inr x2)
    else chk (inb (x1 + x3) (alM p0) = true) (if (gI M p0 (x1 + x3).toNatClampNeg) ≤ 0 then lett (x2 ||| 0) fun x_2 => lett (x3 + 1) fun x_4 => some (.inl (x_2, x_4))
    else lett (x2 ||| (ish 1 x3)) fun x_6 => lett (x3 + 1) fun x_8 => some (.inl (x_6, x_8)))
def F_X9_dugIn (M : Mem) (p0 : Nat) (x1 : Int32) : Option (Int32) :=
 loop (X9_dugIn_L4 M p0 x1) FU (0, 0)
set_option maxRecDepth 100000 in
set_option maxHeartbeats 4000000 in
theorem s_X9_dugIn_L4 (M : Mem) (p0 : Nat) (x1 : Int32) (h0 : isAM p0 = true) (x2 : Int32) (x3 : Int32) {Po : Po_} (x : (Int32 × Int32) ⊕ (Int32)) (h : X9_dugIn_L4 M p0 x1 (x2, x3) = some x) (hI : ∀ (ix2 : Int32) (ix3 : Int32), x = .inl (ix2, ix3) → T RX9 cX9_dugIn 4 (some .int) 0 1 0 0 false Po 4 [aR (some p0), aI x1, aI ix2, aI ix3] [] LAYM rfm M 0 0) (hE0 : ∀ (er : Int32), x = .inr er → Po (vI er) LAYM rfm M) : T RX9 cX9_dugIn 4 (some .int) 0 1 0 0 false Po 4 [aR (some p0), aI x1, aI x2, aI x3] [] LAYM rfm M 0 0 := by
  unfold X9_dugIn_L4 at h
  simp only at h
  refine T_iload_n dX9_dugIn_4 rfl ?_
  refine T_bipush dX9_dugIn_5 bp_16 ?_
  refine T_icmp_ge (tgt := 34) dX9_dugIn_7 (by decide) (fun hc => ?_) (fun hc => ?_)
  · have h := it_pos hc h
    refine T_iload_n dX9_dugIn_34 rfl ?_
    obtain rfl := sm1 h
    exact T_iret dX9_dugIn_35 (hE0 _ rfl)
  · have h := it_neg hc h
    refine T_iload_n dX9_dugIn_10 rfl ?_
    refine T_aload_n dX9_dugIn_11 rfl ?_
    refine T_iload_n dX9_dugIn_12 rfl ?_
    refine T_iload_n dX9_dugIn_13 rfl ?_
    refine T_iadd dX9_dugIn_14 ?_
    obtain ⟨hi_1, h⟩ := chk_some h
    refine T_iald dX9_dugIn_15 (lyAM h0) (inb_in hi_1) ?_
    refine T_if_le (tgt := 25) dX9_dugIn_16 (by decide) (fun hc => ?_) (fun hc => ?_)
    · have h := it_pos hc h
      refine T_iconst dX9_dugIn_25 ic_0 ?_
      refine T_ior dX9_dugIn_26 ?_
      obtain ⟨x_2, ex_3, h⟩ := lett_some h
      refine T_topI ex_3 ?_
      refine T_istore_n (i := 2) (L' := [aR (some p0), aI x1, aI x_2, aI x3]) dX9_dugIn_27 rfl (Nat.le_of_ble_eq_true rfl) rfl ?_
      obtain ⟨x_4, ex_5, h⟩ := lett_some h
      refine T_iinc (L' := [aR (some p0), aI x1, aI x_2, aI x_4]) dX9_dugIn_28 rfl (ic_inc ic_1 ex_5) (Nat.le_of_ble_eq_true rfl) rfl ?_
      refine T_goto (tgt := 4) dX9_dugIn_31 (by decide) ?_
      obtain rfl := sm1 h
      exact hI _ _ rfl
    · have h := it_neg hc h
      refine T_iconst dX9_dugIn_19 ic_1 ?_
      refine T_iload_n dX9_dugIn_20 rfl ?_
      refine T_ishl dX9_dugIn_21 ?_
      refine T_goto (tgt := 26) dX9_dugIn_22 (by decide) ?_
      refine T_ior dX9_dugIn_26 ?_
      obtain ⟨x_6, ex_7, h⟩ := lett_some h
      refine T_topI ex_7 ?_
      refine T_istore_n (i := 2) (L' := [aR (some p0), aI x1, aI x_6, aI x3]) dX9_dugIn_27 rfl (Nat.le_of_ble_eq_true rfl) rfl ?_
      obtain ⟨x_8, ex_9, h⟩ := lett_some h
      refine T_iinc (L' := [aR (some p0), aI x1, aI x_6, aI x_8]) dX9_dugIn_28 rfl (ic_inc ic_1 ex_9) (Nat.le_of_ble_eq_true rfl) rfl ?_
      refine T_goto (tgt := 4) dX9_dugIn_31 (by decide) ?_
      obtain rfl := sm1 h
      exact hI _ _ rfl
set_option maxRecDepth 100000 in
set_option maxHeartbeats 4000000 in
theorem l_X9_dugIn_L4 (M : Mem) (p0 : Nat) (x1 : Int32) (h0 : isAM p0 = true) {Po : Po_} (er : Int32) : ∀ (k : Nat) (x2 : Int32) (x3 : Int32), loop (X9_dugIn_L4 M p0 x1) k (x2, x3) = some er → (Po (vI er) LAYM rfm M) → T RX9 cX9_dugIn 4 (some .int) 0 1 0 0 false Po 4 [aR (some p0), aI x1, aI x2, aI x3] [] LAYM rfm M 0 0 := by
  intro k
  induction k with
  | zero => intro x2 x3 h; cases h
  | succ k ih =>
    intro x2 x3 h hE
    obtain ⟨x, hx, hx1, hx2⟩ := loop_succ h
    exact s_X9_dugIn_L4  M p0 x1 h0 x2 x3 x hx (fun q0 q1 e => ih q0 q1 (hx1 _ e) hE) (fun q0 e => by cases hx2 _ e; exact hE)
set_option maxRecDepth 100000 in
set_option maxHeartbeats 4000000 in
theorem m_X9_dugIn (M : Mem) (p0 : Nat) (x1 : Int32) (h0 : isAM p0 = true) (r : Int32) (h : F_X9_dugIn M p0 x1 = some r) : Cal yX9_dugIn cX9_dugIn 4 (some .int) 0 1 0 0 false [vR (some p0), vI x1] LAYM rfm M (eqp (vI r) LAYM rfm M) := by
  refine Cal.of (by decide +kernel) (Nat.le_of_ble_eq_true rfl) (fun h => by cases h) ?_
  unfold F_X9_dugIn at h
  show T RX9 cX9_dugIn 4 (some .int) 0 1 0 0 false (eqp (vI r) LAYM rfm M) 0 [aR (some p0), aI x1, aU, aU] [] LAYM rfm M 0 0
  refine T_iconst dX9_dugIn_0 ic_0 ?_
  refine T_istore_n (i := 2) (L' := [aR (some p0), aI x1, aI 0, aU]) dX9_dugIn_1 rfl (Nat.le_of_ble_eq_true rfl) rfl ?_
  refine T_iconst dX9_dugIn_2 ic_0 ?_
  refine T_istore_n (i := 3) (L' := [aR (some p0), aI x1, aI 0, aI 0]) dX9_dugIn_3 rfl (Nat.le_of_ble_eq_true rfl) rfl ?_
  exact l_X9_dugIn_L4  M p0 x1 h0 _ FU 0 0 h ⟨rfl, rfl, rfl, rfl⟩
def X9_findHoles_L8 (x1 : Int32) (p2 : Nat) : Int32 × Int32 × Int32 × Mem → Option ((Int32 × Int32 × Int32 × Mem) ⊕ (Int32 × Mem))
  | (x3, x4, x5, M) =>
    if (gI M 0 11) ≤ x5 then some (.inr (x4, M))
    else bd1 (F_X9_has x3 x5) fun r_1 => if r_1 = 0 then lett (x5 + 1) fun x_3 => some (.inl (x3, x4, x_3, M))
    else bd1 (F_X9_grown M x1 x5) fun r_5 => chk (inb x4 (alM p2) = true) (lett (sI M p2 x4.toNatClampNeg r_5) fun M_7 => chk (inb x4 (alM p2) = true) (lett (x3 &&& ((gI M_7 p2 x4.toNatClampNeg) ^^^ (-1))) fun x_11 => lett (x4 + 1) fun x_13 => lett (x5 + 1) fun x_15 => some (.inl (x_11, x_13, x_15, M_7))))
def F_X9_findHoles (M : Mem) (x1 : Int32) (p2 : Nat) : Option (Int32 × Mem) :=
 loop (X9_findHoles_L8 x1 p2) FU (x1, 0, 0, M)
set_option maxRecDepth 100000 in
set_option maxHeartbeats 4000000 in
theorem s_X9_findHoles_L8 (x1 : Int32) (p2 : Nat) (h2 : isAM p2 = true) (x3 : Int32) (x4 : Int32) (x5 : Int32) (M : Mem) {Po : Po_} (x : (Int32 × Int32 × Int32 × Mem) ⊕ (Int32 × Mem)) (h : X9_findHoles_L8 x1 p2 (x3, x4, x5, M) = some x) (hI : ∀ (ix3 : Int32) (ix4 : Int32) (ix5 : Int32) (iM : Mem), x = .inl (ix3, ix4, ix5, iM) → T RX9 cX9_findHoles 6 (some .int) 0 3 0 0 false Po 8 [aR (some 0), aI x1, aR (some p2), aI ix3, aI ix4, aI ix5] [] LAYM rfm iM 0 0) (hE0 : ∀ (er : Int32) (eM : Mem), x = .inr (er, eM) → Po (vI er) LAYM rfm eM) : T RX9 cX9_findHoles 6 (some .int) 0 3 0 0 false Po 8 [aR (some 0), aI x1, aR (some p2), aI x3, aI x4, aI x5] [] LAYM rfm M 0 0 := by
  unfold X9_findHoles_L8 at h
  simp only at h
  refine T_iload dX9_findHoles_8 rfl ?_
  refine T_aload_n dX9_findHoles_10 rfl ?_
  refine T_getI dX9_findHoles_11 clOK_X9 fl_X9_155 lyM_0 rfl ?_
  refine T_icmp_ge (tgt := 55) dX9_findHoles_14 (by decide) (fun hc => ?_) (fun hc => ?_)
  · have h := it_pos hc h
    refine T_iload dX9_findHoles_55 rfl ?_
    obtain rfl := sm1 h
    exact T_iret dX9_findHoles_57 (hE0 _ _ rfl)
  · have h := it_neg hc h
    refine T_iload_n dX9_findHoles_17 rfl ?_
    refine T_iload dX9_findHoles_18 rfl ?_
    obtain ⟨r_1, hc_2, h⟩ := bd1_some h
    refine T_csi (as := [vI x3, vI x5]) dX9_findHoles_20 cw_X9_has ml_X9_170 mt_X9_has rfl (Nat.le_of_ble_eq_true rfl) (Nat.le_of_ble_eq_true rfl) (m_X9_has M x3 x5  _ hc_2) ?_
    refine T_if_eq (tgt := 49) dX9_findHoles_23 (by decide) (fun hc => ?_) (fun hc => ?_)
    · have h := it_pos hc h
      obtain ⟨x_3, ex_4, h⟩ := lett_some h
      refine T_iinc (L' := [aR (some 0), aI x1, aR (some p2), aI x3, aI x4, aI x_3]) dX9_findHoles_49 rfl (ic_inc ic_1 ex_4) (Nat.le_of_ble_eq_true rfl) rfl ?_
      refine T_goto (tgt := 8) dX9_findHoles_52 (by decide) ?_
      obtain rfl := sm1 h
      exact hI _ _ _ _ rfl
    · have h := it_neg hc h
      refine T_aload_n dX9_findHoles_26 rfl ?_
      refine T_iload dX9_findHoles_27 rfl ?_
      refine T_aload_n dX9_findHoles_29 rfl ?_
      refine T_iload_n dX9_findHoles_30 rfl ?_
      refine T_iload dX9_findHoles_31 rfl ?_
      obtain ⟨r_5, hc_6, h⟩ := bd1_some h
      refine T_cvi (as := [vI x1, vI x5]) dX9_findHoles_33 cw_X9_grown ml_X9_176 mi_X9_grown se_X9_grown lyM_0 rfl (by decide) rfl (Nat.le_of_ble_eq_true rfl) (Nat.le_of_ble_eq_true rfl) (m_X9_grown  M x1 x5  _ hc_6) ?_
      obtain ⟨hi_9, h⟩ := chk_some h
      obtain ⟨M_7, eM_8, h⟩ := lett_some h
      refine T_iast dX9_findHoles_36 (lyAM h2) (inb_in hi_9) eM_8 ?_
      refine T_iload_n dX9_findHoles_37 rfl ?_
      refine T_aload_n dX9_findHoles_38 rfl ?_
      refine T_iload dX9_findHoles_39 rfl ?_
      obtain ⟨hi_10, h⟩ := chk_some h
      refine T_iald dX9_findHoles_41 (lyAM h2) (inb_in hi_10) ?_
      refine T_iconst dX9_findHoles_42 ic_m1 ?_
      refine T_ixor dX9_findHoles_43 ?_
      refine T_iand dX9_findHoles_44 ?_
      obtain ⟨x_11, ex_12, h⟩ := lett_some h
      refine T_topI ex_12 ?_
      refine T_istore_n (i := 3) (L' := [aR (some 0), aI x1, aR (some p2), aI x_11, aI x4, aI x5]) dX9_findHoles_45 rfl (Nat.le_of_ble_eq_true rfl) rfl ?_
      obtain ⟨x_13, ex_14, h⟩ := lett_some h
      refine T_iinc (L' := [aR (some 0), aI x1, aR (some p2), aI x_11, aI x_13, aI x5]) dX9_findHoles_46 rfl (ic_inc ic_1 ex_14) (Nat.le_of_ble_eq_true rfl) rfl ?_
      obtain ⟨x_15, ex_16, h⟩ := lett_some h
      refine T_iinc (L' := [aR (some 0), aI x1, aR (some p2), aI x_11, aI x_13, aI x_15]) dX9_findHoles_49 rfl (ic_inc ic_1 ex_16) (Nat.le_of_ble_eq_true rfl) rfl ?_
      refine T_goto (tgt := 8) dX9_findHoles_52 (by decide) ?_
      obtain rfl := sm1 h
      exact hI _ _ _ _ rfl
set_option maxRecDepth 100000 in
set_option maxHeartbeats 4000000 in
theorem l_X9_findHoles_L8 (x1 : Int32) (p2 : Nat) (h2 : isAM p2 = true) {Po : Po_} (er : Int32) (eM : Mem) : ∀ (k : Nat) (x3 : Int32) (x4 : Int32) (x5 : Int32) (M : Mem), loop (X9_findHoles_L8 x1 p2) k (x3, x4, x5, M) = some (er, eM) → (Po (vI er) LAYM rfm eM) → T RX9 cX9_findHoles 6 (some .int) 0 3 0 0 false Po 8 [aR (some 0), aI x1, aR (some p2), aI x3, aI x4, aI x5] [] LAYM rfm M 0 0 := by
  intro k
  induction k with
  | zero => intro x3 x4 x5 M h; cases h
  | succ k ih =>
    intro x3 x4 x5 M h hE
    obtain ⟨x, hx, hx1, hx2⟩ := loop_succ h
    exact s_X9_findHoles_L8  x1 p2 h2 x3 x4 x5 M x hx (fun q0 q1 q2 q3 e => ih q0 q1 q2 q3 (hx1 _ e) hE) (fun q0 q1 e => by cases hx2 _ e; exact hE)
set_option maxRecDepth 100000 in
set_option maxHeartbeats 4000000 in
theorem m_X9_findHoles (M : Mem) (x1 : Int32) (p2 : Nat) (h2 : isAM p2 = true) (r : Int32) (M' : Mem) (h : F_X9_findHoles M x1 p2 = some (r, M')) : Cal yX9_findHoles cX9_findHoles 6 (some .int) 0 3 0 0 false [vR (some 0), vI x1, vR (some p2)] LAYM rfm M (eqp (vI r) LAYM rfm M') := by
  refine Cal.of (by decide +kernel) (Nat.le_of_ble_eq_true rfl) (fun h => by cases h) ?_
  unfold F_X9_findHoles at h
  show T RX9 cX9_findHoles 6 (some .int) 0 3 0 0 false (eqp (vI r) LAYM rfm M') 0 [aR (some 0), aI x1, aR (some p2), aU, aU, aU] [] LAYM rfm M 0 0
  refine T_iload_n dX9_findHoles_0 rfl ?_
  refine T_istore_n (i := 3) (L' := [aR (some 0), aI x1, aR (some p2), aI x1, aU, aU]) dX9_findHoles_1 rfl (Nat.le_of_ble_eq_true rfl) rfl ?_
  refine T_iconst dX9_findHoles_2 ic_0 ?_
  refine T_istore (i := 4) (L' := [aR (some 0), aI x1, aR (some p2), aI x1, aI 0, aU]) dX9_findHoles_3 (Nat.le_of_ble_eq_true rfl) rfl ?_
  refine T_iconst dX9_findHoles_5 ic_0 ?_
  refine T_istore (i := 5) (L' := [aR (some 0), aI x1, aR (some p2), aI x1, aI 0, aI 0]) dX9_findHoles_6 (Nat.le_of_ble_eq_true rfl) rfl ?_
  exact l_X9_findHoles_L8  x1 p2 h2 _ _ FU x1 0 0 M h ⟨rfl, rfl, rfl, rfl⟩
def F_X9_layHoles (M : Mem) : Option (Mem) :=
 bd1 (F_X9_dugIn M 7 0) fun r_1 => bd2 (F_X9_findHoles M r_1 11) fun r_3 M_4 => lett (sI M_4 0 23 r_3) fun M_6 => some M_6
set_option maxRecDepth 100000 in
set_option maxHeartbeats 4000000 in
theorem m_X9_layHoles (M : Mem) (M' : Mem) (h : F_X9_layHoles M = some M') : Cal yX9_layHoles cX9_layHoles 1 none 2 4 0 0 false [vR (some 0)] LAYM rfm M (eqp (vI 0) LAYM rfm M') := by
  refine Cal.of (by decide +kernel) (Nat.le_of_ble_eq_true rfl) (fun h => by cases h) ?_
  unfold F_X9_layHoles at h
  show T RX9 cX9_layHoles 1 none 2 4 0 0 false (eqp (vI 0) LAYM rfm M') 0 [aR (some 0)] [] LAYM rfm M 0 0
  refine T_aload_n dX9_layHoles_0 rfl ?_
  refine T_aload_n dX9_layHoles_1 rfl ?_
  refine T_aload_n dX9_layHoles_2 rfl ?_
  refine T_getR dX9_layHoles_3 clOK_X9 fl_X9_32 lyM_0 rfl rfl ?_
  refine T_iconst dX9_layHoles_6 ic_0 ?_
  obtain ⟨r_1, hc_2, h⟩ := bd1_some h
  refine T_csi (as := [vR (some 7), vI 0]) dX9_layHoles_7 cw_X9_dugIn ml_X9_179 mt_X9_dugIn rfl (Nat.le_of_ble_eq_true rfl) (Nat.le_of_ble_eq_true rfl) (m_X9_dugIn  M 7 0 rfl _ hc_2) ?_
  refine T_aload_n dX9_layHoles_10 rfl ?_
  refine T_getR dX9_layHoles_11 clOK_X9 fl_X9_44 lyM_0 rfl rfl ?_
  obtain ⟨r_3, M_4, hc_5, h⟩ := bd2_some h
  refine T_cvi (as := [vI r_1, vR (some 11)]) dX9_layHoles_14 cw_X9_findHoles ml_X9_183 mi_X9_findHoles se_X9_findHoles lyM_0 rfl (by decide) rfl (Nat.le_of_ble_eq_true rfl) (Nat.le_of_ble_eq_true rfl) (m_X9_findHoles  M r_1 11 rfl _ _ hc_5) ?_
  obtain ⟨M_6, eM_7, h⟩ := lett_some h
  refine T_putI dX9_layHoles_17 clOK_X9 fl_X9_187 (Or.inl rfl) lyM_0 rfl rfl eM_7 ?_
  obtain rfl := sm1 h
  exact T_vret dX9_layHoles_20 ⟨rfl, rfl, rfl, rfl⟩
def F_X9_holeCount (M : Mem) : Option (Int32 × Mem) :=
 bd1 (F_X9_layHoles M) fun M_1 => some (gI M_1 0 23, M_1)
set_option maxRecDepth 100000 in
set_option maxHeartbeats 4000000 in
theorem m_X9_holeCount (M : Mem) (r : Int32) (M' : Mem) (h : F_X9_holeCount M = some (r, M')) : Cal yX9_holeCount cX9_holeCount 1 (some .int) 0 5 0 0 false [vR (some 0)] LAYM rfm M (eqp (vI r) LAYM rfm M') := by
  refine Cal.of (by decide +kernel) (Nat.le_of_ble_eq_true rfl) (fun h => by cases h) ?_
  unfold F_X9_holeCount at h
  show T RX9 cX9_holeCount 1 (some .int) 0 5 0 0 false (eqp (vI r) LAYM rfm M') 0 [aR (some 0)] [] LAYM rfm M 0 0
  refine T_aload_n dX9_holeCount_0 rfl ?_
  obtain ⟨M_1, hc_2, h⟩ := bd1_some h
  refine T_cvv (as := []) dX9_holeCount_1 cw_X9_layHoles ml_X9_190 mi_X9_layHoles se_X9_layHoles lyM_0 rfl (by decide) rfl (Nat.le_of_ble_eq_true rfl) (Nat.le_of_ble_eq_true rfl) (m_X9_layHoles  M  _ hc_2) ?_
  refine T_aload_n dX9_holeCount_4 rfl ?_
  refine T_getI dX9_holeCount_5 clOK_X9 fl_X9_187 lyM_0 rfl ?_
  obtain ⟨rfl, rfl⟩ := sm2 h
  exact T_iret dX9_holeCount_8 ⟨rfl, rfl, rfl, rfl⟩
def F_X9_isHole (M : Mem) (x1 : Int32) : Option (Int32 × Mem) :=
 bd1 (F_X9_layHoles M) fun M_1 => bd1 (F_X9_in x1 0 ((gI M_1 0 23) - 1)) fun r_3 => chk (r_3 = 0 ∨ r_3 = 1) (some (r_3, M_1))
set_option maxRecDepth 100000 in
set_option maxHeartbeats 4000000 in
theorem m_X9_isHole (M : Mem) (x1 : Int32) (r : Int32) (M' : Mem) (h : F_X9_isHole M x1 = some (r, M')) : Cal yX9_isHole cX9_isHole 2 (some .boolean) 0 5 0 0 false [vR (some 0), vI x1] LAYM rfm M (eqp (vI r) LAYM rfm M') := by
  refine Cal.of (by decide +kernel) (Nat.le_of_ble_eq_true rfl) (fun h => by cases h) ?_
  unfold F_X9_isHole at h
  show T RX9 cX9_isHole 2 (some .boolean) 0 5 0 0 false (eqp (vI r) LAYM rfm M') 0 [aR (some 0), aI x1] [] LAYM rfm M 0 0
  refine T_aload_n dX9_isHole_0 rfl ?_
  obtain ⟨M_1, hc_2, h⟩ := bd1_some h
  refine T_cvv (as := []) dX9_isHole_1 cw_X9_layHoles ml_X9_190 mi_X9_layHoles se_X9_layHoles lyM_0 rfl (by decide) rfl (Nat.le_of_ble_eq_true rfl) (Nat.le_of_ble_eq_true rfl) (m_X9_layHoles  M  _ hc_2) ?_
  refine T_iload_n dX9_isHole_4 rfl ?_
  refine T_iconst dX9_isHole_5 ic_0 ?_
  refine T_aload_n dX9_isHole_6 rfl ?_
  refine T_getI dX9_isHole_7 clOK_X9 fl_X9_187 lyM_0 rfl ?_
  refine T_iconst dX9_isHole_10 ic_1 ?_
  refine T_isub dX9_isHole_11 ?_
  obtain ⟨r_3, hc_4, h⟩ := bd1_some h
  refine T_csi (as := [vI x1, vI 0, vI ((gI M_1 0 23) - 1)]) dX9_isHole_12 cw_X9_in ml_X9_79 mt_X9_in rfl (Nat.le_of_ble_eq_true rfl) (Nat.le_of_ble_eq_true rfl) (m_X9_in M_1 x1 0 ((gI M_1 0 23) - 1)  _ hc_4) ?_
  obtain ⟨hb_5, h⟩ := chk_some h
  obtain ⟨rfl, rfl⟩ := sm2 h
  exact T_zret dX9_isHole_15 hb_5 ⟨rfl, rfl, rfl, rfl⟩
def X9_volume_L6 (M : Mem) (p1 : Nat) (x2 : Int32) (x3 : Int32) : Int32 × Int32 → Option ((Int32 × Int32) ⊕ (Int32))
  | (x4, x5) =>
    if (gI M 0 11) ≤ x5 then some (.inr x4)
    else bd1 (F_X9_has x3 x5) fun r_1 => if r_1 = 0 then lett (x4 + 0) fun x_3 => lett (x5 + 1) fun x_5 => some (.inl (x_3, x_5))
    else chk (inb (x2 + x5) (alM p1) = true) (lett (x4 + (gI M p1 (x2 + x5).toNatClampNeg)) fun x_8 => lett (x5 + 1) fun x_10 => some (.inl (x_8, x_10)))
def F_X9_volume (M : Mem) (p1 : Nat) (x2 : Int32) (x3 : Int32) : Option (Int32) :=
 loop (X9_volume_L6 M p1 x2 x3) FU (0, 0)
set_option maxRecDepth 100000 in
set_option maxHeartbeats 4000000 in
theorem s_X9_volume_L6 (M : Mem) (p1 : Nat) (x2 : Int32) (x3 : Int32) (h1 : isAM p1 = true) (x4 : Int32) (x5 : Int32) {Po : Po_} (x : (Int32 × Int32) ⊕ (Int32)) (h : X9_volume_L6 M p1 x2 x3 (x4, x5) = some x) (hI : ∀ (ix4 : Int32) (ix5 : Int32), x = .inl (ix4, ix5) → T RX9 cX9_volume 6 (some .int) 0 2 0 0 false Po 6 [aR (some 0), aR (some p1), aI x2, aI x3, aI ix4, aI ix5] [] LAYM rfm M 0 0) (hE0 : ∀ (er : Int32), x = .inr er → Po (vI er) LAYM rfm M) : T RX9 cX9_volume 6 (some .int) 0 2 0 0 false Po 6 [aR (some 0), aR (some p1), aI x2, aI x3, aI x4, aI x5] [] LAYM rfm M 0 0 := by
  unfold X9_volume_L6 at h
  simp only at h
  refine T_iload dX9_volume_6 rfl ?_
  refine T_aload_n dX9_volume_8 rfl ?_
  refine T_getI dX9_volume_9 clOK_X9 fl_X9_155 lyM_0 rfl ?_
  refine T_icmp_ge (tgt := 45) dX9_volume_12 (by decide) (fun hc => ?_) (fun hc => ?_)
  · have h := it_pos hc h
    refine T_iload dX9_volume_45 rfl ?_
    obtain rfl := sm1 h
    exact T_iret dX9_volume_47 (hE0 _ rfl)
  · have h := it_neg hc h
    refine T_iload dX9_volume_15 rfl ?_
    refine T_iload_n dX9_volume_17 rfl ?_
    refine T_iload dX9_volume_18 rfl ?_
    obtain ⟨r_1, hc_2, h⟩ := bd1_some h
    refine T_csi (as := [vI x3, vI x5]) dX9_volume_20 cw_X9_has ml_X9_170 mt_X9_has rfl (Nat.le_of_ble_eq_true rfl) (Nat.le_of_ble_eq_true rfl) (m_X9_has M x3 x5  _ hc_2) ?_
    refine T_if_eq (tgt := 35) dX9_volume_23 (by decide) (fun hc => ?_) (fun hc => ?_)
    · have h := it_pos hc h
      refine T_iconst dX9_volume_35 ic_0 ?_
      refine T_iadd dX9_volume_36 ?_
      obtain ⟨x_3, ex_4, h⟩ := lett_some h
      refine T_topI ex_4 ?_
      refine T_istore (i := 4) (L' := [aR (some 0), aR (some p1), aI x2, aI x3, aI x_3, aI x5]) dX9_volume_37 (Nat.le_of_ble_eq_true rfl) rfl ?_
      obtain ⟨x_5, ex_6, h⟩ := lett_some h
      refine T_iinc (L' := [aR (some 0), aR (some p1), aI x2, aI x3, aI x_3, aI x_5]) dX9_volume_39 rfl (ic_inc ic_1 ex_6) (Nat.le_of_ble_eq_true rfl) rfl ?_
      refine T_goto (tgt := 6) dX9_volume_42 (by decide) ?_
      obtain rfl := sm1 h
      exact hI _ _ rfl
    · have h := it_neg hc h
      refine T_aload_n dX9_volume_26 rfl ?_
      refine T_iload_n dX9_volume_27 rfl ?_
      refine T_iload dX9_volume_28 rfl ?_
      refine T_iadd dX9_volume_30 ?_
      obtain ⟨hi_7, h⟩ := chk_some h
      refine T_iald dX9_volume_31 (lyAM h1) (inb_in hi_7) ?_
      refine T_goto (tgt := 36) dX9_volume_32 (by decide) ?_
      refine T_iadd dX9_volume_36 ?_
      obtain ⟨x_8, ex_9, h⟩ := lett_some h
      refine T_topI ex_9 ?_
      refine T_istore (i := 4) (L' := [aR (some 0), aR (some p1), aI x2, aI x3, aI x_8, aI x5]) dX9_volume_37 (Nat.le_of_ble_eq_true rfl) rfl ?_
      obtain ⟨x_10, ex_11, h⟩ := lett_some h
      refine T_iinc (L' := [aR (some 0), aR (some p1), aI x2, aI x3, aI x_8, aI x_10]) dX9_volume_39 rfl (ic_inc ic_1 ex_11) (Nat.le_of_ble_eq_true rfl) rfl ?_
      refine T_goto (tgt := 6) dX9_volume_42 (by decide) ?_
      obtain rfl := sm1 h
      exact hI _ _ rfl
set_option maxRecDepth 100000 in
set_option maxHeartbeats 4000000 in
theorem l_X9_volume_L6 (M : Mem) (p1 : Nat) (x2 : Int32) (x3 : Int32) (h1 : isAM p1 = true) {Po : Po_} (er : Int32) : ∀ (k : Nat) (x4 : Int32) (x5 : Int32), loop (X9_volume_L6 M p1 x2 x3) k (x4, x5) = some er → (Po (vI er) LAYM rfm M) → T RX9 cX9_volume 6 (some .int) 0 2 0 0 false Po 6 [aR (some 0), aR (some p1), aI x2, aI x3, aI x4, aI x5] [] LAYM rfm M 0 0 := by
  intro k
  induction k with
  | zero => intro x4 x5 h; cases h
  | succ k ih =>
    intro x4 x5 h hE
    obtain ⟨x, hx, hx1, hx2⟩ := loop_succ h
    exact s_X9_volume_L6  M p1 x2 x3 h1 x4 x5 x hx (fun q0 q1 e => ih q0 q1 (hx1 _ e) hE) (fun q0 e => by cases hx2 _ e; exact hE)
set_option maxRecDepth 100000 in
set_option maxHeartbeats 4000000 in
theorem m_X9_volume (M : Mem) (p1 : Nat) (x2 : Int32) (x3 : Int32) (h1 : isAM p1 = true) (r : Int32) (h : F_X9_volume M p1 x2 x3 = some r) : Cal yX9_volume cX9_volume 6 (some .int) 0 2 0 0 false [vR (some 0), vR (some p1), vI x2, vI x3] LAYM rfm M (eqp (vI r) LAYM rfm M) := by
  refine Cal.of (by decide +kernel) (Nat.le_of_ble_eq_true rfl) (fun h => by cases h) ?_
  unfold F_X9_volume at h
  show T RX9 cX9_volume 6 (some .int) 0 2 0 0 false (eqp (vI r) LAYM rfm M) 0 [aR (some 0), aR (some p1), aI x2, aI x3, aU, aU] [] LAYM rfm M 0 0
  refine T_iconst dX9_volume_0 ic_0 ?_
  refine T_istore (i := 4) (L' := [aR (some 0), aR (some p1), aI x2, aI x3, aI 0, aU]) dX9_volume_1 (Nat.le_of_ble_eq_true rfl) rfl ?_
  refine T_iconst dX9_volume_3 ic_0 ?_
  refine T_istore (i := 5) (L' := [aR (some 0), aR (some p1), aI x2, aI x3, aI 0, aI 0]) dX9_volume_4 (Nat.le_of_ble_eq_true rfl) rfl ?_
  exact l_X9_volume_L6  M p1 x2 x3 h1 _ FU 0 0 h ⟨rfl, rfl, rfl, rfl⟩
