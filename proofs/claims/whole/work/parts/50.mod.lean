def X9_readBack_L2 (p1 : Nat) (x2 : Int32) : Int32 × Mem → Option ((Int32 × Mem) ⊕ (Mem))
  | (x3, M) =>
    if (nI 16) ≤ x3 then chk (inb (x2 + (nI 16)) (alM p1) = true) (lett (sI M 0 16 (gI M p1 (x2 + (nI 16)).toNatClampNeg)) fun M_2 => some (.inr M_2))
    else chk (inb (x2 + x3) (alM p1) = true) (chk (inb x3 16 = true) (lett (sI M 7 x3.toNatClampNeg (gI M p1 (x2 + x3).toNatClampNeg)) fun M_5 => lett (x3 + 1) fun x_8 => some (.inl (x_8, M_5))))
def F_X9_readBack (M : Mem) (p1 : Nat) (x2 : Int32) : Option (Mem) :=
 loop (X9_readBack_L2 p1 x2) FU (0, M)
set_option maxRecDepth 100000 in
set_option maxHeartbeats 4000000 in
theorem s_X9_readBack_L2 (p1 : Nat) (x2 : Int32) (h1 : isAM p1 = true) (x3 : Int32) (M : Mem) {Po : Po_} (x : (Int32 × Mem) ⊕ (Mem)) (h : X9_readBack_L2 p1 x2 (x3, M) = some x) (hI : ∀ (ix3 : Int32) (iM : Mem), x = .inl (ix3, iM) → T RX9 cX9_readBack 4 none 2 1 0 0 false Po 2 [aR (some 0), aR (some p1), aI x2, aI ix3] [] LAYM rfm iM 0 0) (hE0 : ∀ (eM : Mem), x = .inr eM → Po (vI 0) LAYM rfm eM) : T RX9 cX9_readBack 4 none 2 1 0 0 false Po 2 [aR (some 0), aR (some p1), aI x2, aI x3] [] LAYM rfm M 0 0 := by
  unfold X9_readBack_L2 at h
  simp only at h
  refine T_iload_n dX9_readBack_2 rfl ?_
  refine T_bipush dX9_readBack_3 bp_16 ?_
  refine T_icmp_ge (tgt := 25) dX9_readBack_5 (by decide) (fun hc => ?_) (fun hc => ?_)
  · have h := it_pos hc h
    refine T_aload_n dX9_readBack_25 rfl ?_
    refine T_aload_n dX9_readBack_26 rfl ?_
    refine T_iload_n dX9_readBack_27 rfl ?_
    refine T_bipush dX9_readBack_28 bp_16 ?_
    refine T_iadd dX9_readBack_30 ?_
    obtain ⟨hi_1, h⟩ := chk_some h
    refine T_iald dX9_readBack_31 (lyAM h1) (inb_in hi_1) ?_
    obtain ⟨M_2, eM_3, h⟩ := lett_some h
    refine T_putI dX9_readBack_32 clOK_X9 fl_X9_164 (Or.inl rfl) lyM_0 rfl rfl eM_3 ?_
    obtain rfl := sm1 h
    exact T_vret dX9_readBack_35 (hE0 _ rfl)
  · have h := it_neg hc h
    refine T_aload_n dX9_readBack_8 rfl ?_
    refine T_getR dX9_readBack_9 clOK_X9 fl_X9_32 lyM_0 rfl rfl ?_
    refine T_iload_n dX9_readBack_12 rfl ?_
    refine T_aload_n dX9_readBack_13 rfl ?_
    refine T_iload_n dX9_readBack_14 rfl ?_
    refine T_iload_n dX9_readBack_15 rfl ?_
    refine T_iadd dX9_readBack_16 ?_
    obtain ⟨hi_4, h⟩ := chk_some h
    refine T_iald dX9_readBack_17 (lyAM h1) (inb_in hi_4) ?_
    obtain ⟨hi_7, h⟩ := chk_some h
    obtain ⟨M_5, eM_6, h⟩ := lett_some h
    refine T_iast dX9_readBack_18 lyM_7 (inb_in hi_7) eM_6 ?_
    obtain ⟨x_8, ex_9, h⟩ := lett_some h
    refine T_iinc (L' := [aR (some 0), aR (some p1), aI x2, aI x_8]) dX9_readBack_19 rfl (ic_inc ic_1 ex_9) (Nat.le_of_ble_eq_true rfl) rfl ?_
    refine T_goto (tgt := 2) dX9_readBack_22 (by decide) ?_
    obtain rfl := sm1 h
    exact hI _ _ rfl
set_option maxRecDepth 100000 in
set_option maxHeartbeats 4000000 in
theorem l_X9_readBack_L2 (p1 : Nat) (x2 : Int32) (h1 : isAM p1 = true) {Po : Po_} (eM : Mem) : ∀ (k : Nat) (x3 : Int32) (M : Mem), loop (X9_readBack_L2 p1 x2) k (x3, M) = some eM → (Po (vI 0) LAYM rfm eM) → T RX9 cX9_readBack 4 none 2 1 0 0 false Po 2 [aR (some 0), aR (some p1), aI x2, aI x3] [] LAYM rfm M 0 0 := by
  intro k
  induction k with
  | zero => intro x3 M h; cases h
  | succ k ih =>
    intro x3 M h hE
    obtain ⟨x, hx, hx1, hx2⟩ := loop_succ h
    exact s_X9_readBack_L2  p1 x2 h1 x3 M x hx (fun q0 q1 e => ih q0 q1 (hx1 _ e) hE) (fun q0 e => by cases hx2 _ e; exact hE)
set_option maxRecDepth 100000 in
set_option maxHeartbeats 4000000 in
theorem m_X9_readBack (M : Mem) (p1 : Nat) (x2 : Int32) (h1 : isAM p1 = true) (M' : Mem) (h : F_X9_readBack M p1 x2 = some M') : Cal yX9_readBack cX9_readBack 4 none 2 1 0 0 false [vR (some 0), vR (some p1), vI x2] LAYM rfm M (eqp (vI 0) LAYM rfm M') := by
  refine Cal.of (by decide +kernel) (Nat.le_of_ble_eq_true rfl) (fun h => by cases h) ?_
  unfold F_X9_readBack at h
  show T RX9 cX9_readBack 4 none 2 1 0 0 false (eqp (vI 0) LAYM rfm M') 0 [aR (some 0), aR (some p1), aI x2, aU] [] LAYM rfm M 0 0
  refine T_iconst dX9_readBack_0 ic_0 ?_
  refine T_istore_n (i := 3) (L' := [aR (some 0), aR (some p1), aI x2, aI 0]) dX9_readBack_1 rfl (Nat.le_of_ble_eq_true rfl) rfl ?_
  exact l_X9_readBack_L2  p1 x2 h1 _ FU 0 M h ⟨rfl, rfl, rfl, rfl⟩
def F_X9_note (M : Mem) : Option (Mem) :=
 bd1 (F_X9_write M 13 ((nI 17) * (gI M 0 26))) fun M_1 => lett (sI M_1 0 26 ((gI M_1 0 26) + 1)) fun M_3 => some M_3
set_option maxRecDepth 100000 in
set_option maxHeartbeats 4000000 in
theorem m_X9_note (M : Mem) (M' : Mem) (h : F_X9_note M = some M') : Cal yX9_note cX9_note 1 none 2 2 0 0 false [vR (some 0)] LAYM rfm M (eqp (vI 0) LAYM rfm M') := by
  refine Cal.of (by decide +kernel) (Nat.le_of_ble_eq_true rfl) (fun h => by cases h) ?_
  unfold F_X9_note at h
  show T RX9 cX9_note 1 none 2 2 0 0 false (eqp (vI 0) LAYM rfm M') 0 [aR (some 0)] [] LAYM rfm M 0 0
  refine T_aload_n dX9_note_0 rfl ?_
  refine T_aload_n dX9_note_1 rfl ?_
  refine T_getR dX9_note_2 clOK_X9 fl_X9_50 lyM_0 rfl rfl ?_
  refine T_bipush dX9_note_5 bp_17 ?_
  refine T_aload_n dX9_note_7 rfl ?_
  refine T_getI dX9_note_8 clOK_X9 fl_X9_167 lyM_0 rfl ?_
  refine T_imul dX9_note_11 ?_
  obtain ⟨M_1, hc_2, h⟩ := bd1_some h
  refine T_cvv (as := [vR (some 13), vI ((nI 17) * (gI M 0 26))]) dX9_note_12 cw_X9_write ml_X9_253 mi_X9_write se_X9_write lyM_0 rfl (by decide) rfl (Nat.le_of_ble_eq_true rfl) (Nat.le_of_ble_eq_true rfl) (m_X9_write  M 13 ((nI 17) * (gI M 0 26)) rfl _ hc_2) ?_
  refine T_aload_n dX9_note_15 rfl ?_
  refine T_dup dX9_note_16 rfl ?_
  refine T_getI dX9_note_17 clOK_X9 fl_X9_167 lyM_0 rfl ?_
  refine T_iconst dX9_note_20 ic_1 ?_
  refine T_iadd dX9_note_21 ?_
  obtain ⟨M_3, eM_4, h⟩ := lett_some h
  refine T_putI dX9_note_22 clOK_X9 fl_X9_167 (Or.inl rfl) lyM_0 rfl rfl eM_4 ?_
  obtain rfl := sm1 h
  exact T_vret dX9_note_25 ⟨rfl, rfl, rfl, rfl⟩
def F_X9_dig (M : Mem) (x1 : Int32) : Option (Int32 × Mem) :=
 bd1 (F_X9_isCell M x1) fun r_1 => if r_1 = 0 then some ((-1), M)
 else chk (inb x1 16 = true) (if (gI M 7 x1.toNatClampNeg) = (nI 5) then some ((-4), M)
 else if (gI M 0 26) = (nI 40) then some ((-2), M)
 else bd1 (F_X9_note M) fun M_4 => chk (inb x1 16 = true) (chk (inb x1 16 = true) (lett (sI M_4 7 x1.toNatClampNeg ((gI M_4 7 x1.toNatClampNeg) + 1)) fun M_7 => lett (sI M_7 0 16 ((gI M_7 0 16) + 1)) fun M_10 => chk (inb x1 16 = true) (some (gI M_10 7 x1.toNatClampNeg, M_10)))))
set_option maxRecDepth 100000 in
set_option maxHeartbeats 4000000 in
theorem m_X9_dig (M : Mem) (x1 : Int32) (r : Int32) (M' : Mem) (h : F_X9_dig M x1 = some (r, M')) : Cal yX9_dig cX9_dig 2 (some .int) 0 3 0 0 false [vR (some 0), vI x1] LAYM rfm M (eqp (vI r) LAYM rfm M') := by
  refine Cal.of (by decide +kernel) (Nat.le_of_ble_eq_true rfl) (fun h => by cases h) ?_
  unfold F_X9_dig at h
  show T RX9 cX9_dig 2 (some .int) 0 3 0 0 false (eqp (vI r) LAYM rfm M') 0 [aR (some 0), aI x1] [] LAYM rfm M 0 0
  refine T_aload_n dX9_dig_0 rfl ?_
  refine T_iload_n dX9_dig_1 rfl ?_
  obtain ⟨r_1, hc_2, h⟩ := bd1_some h
  refine T_cvi (as := [vI x1]) dX9_dig_2 cw_X9_isCell ml_X9_212 mi_X9_isCell se_X9_isCell lyM_0 rfl (by decide) rfl (Nat.le_of_ble_eq_true rfl) (Nat.le_of_ble_eq_true rfl) (m_X9_isCell  M x1  _ hc_2) ?_
  refine T_if_ne (tgt := 10) dX9_dig_5 (by decide) (fun hc => ?_) (fun hc => ?_)
  · have h := it_neg hc h
    refine T_aload_n dX9_dig_10 rfl ?_
    refine T_getR dX9_dig_11 clOK_X9 fl_X9_32 lyM_0 rfl rfl ?_
    refine T_iload_n dX9_dig_14 rfl ?_
    obtain ⟨hi_3, h⟩ := chk_some h
    refine T_iald dX9_dig_15 lyM_7 (inb_in hi_3) ?_
    refine T_iconst dX9_dig_16 ic_5 ?_
    refine T_icmp_ne (tgt := 23) dX9_dig_17 (by decide) (fun hc => ?_) (fun hc => ?_)
    · have h := it_neg hc h
      refine T_aload_n dX9_dig_23 rfl ?_
      refine T_getI dX9_dig_24 clOK_X9 fl_X9_167 lyM_0 rfl ?_
      refine T_bipush dX9_dig_27 bp_40 ?_
      refine T_icmp_ne (tgt := 35) dX9_dig_29 (by decide) (fun hc => ?_) (fun hc => ?_)
      · have h := it_neg hc h
        refine T_aload_n dX9_dig_35 rfl ?_
        obtain ⟨M_4, hc_5, h⟩ := bd1_some h
        refine T_cvv (as := []) dX9_dig_36 cw_X9_note ml_X9_257 mi_X9_note se_X9_note lyM_0 rfl (by decide) rfl (Nat.le_of_ble_eq_true rfl) (Nat.le_of_ble_eq_true rfl) (m_X9_note  M  _ hc_5) ?_
        refine T_aload_n dX9_dig_39 rfl ?_
        refine T_getR dX9_dig_40 clOK_X9 fl_X9_32 lyM_0 rfl rfl ?_
        refine T_iload_n dX9_dig_43 rfl ?_
        refine T_dup2_11 dX9_dig_44 rfl rfl ?_
        obtain ⟨hi_6, h⟩ := chk_some h
        refine T_iald dX9_dig_45 lyM_7 (inb_in hi_6) ?_
        refine T_iconst dX9_dig_46 ic_1 ?_
        refine T_iadd dX9_dig_47 ?_
        obtain ⟨hi_9, h⟩ := chk_some h
        obtain ⟨M_7, eM_8, h⟩ := lett_some h
        refine T_iast dX9_dig_48 lyM_7 (inb_in hi_9) eM_8 ?_
        refine T_aload_n dX9_dig_49 rfl ?_
        refine T_dup dX9_dig_50 rfl ?_
        refine T_getI dX9_dig_51 clOK_X9 fl_X9_164 lyM_0 rfl ?_
        refine T_iconst dX9_dig_54 ic_1 ?_
        refine T_iadd dX9_dig_55 ?_
        obtain ⟨M_10, eM_11, h⟩ := lett_some h
        refine T_putI dX9_dig_56 clOK_X9 fl_X9_164 (Or.inl rfl) lyM_0 rfl rfl eM_11 ?_
        refine T_aload_n dX9_dig_59 rfl ?_
        refine T_getR dX9_dig_60 clOK_X9 fl_X9_32 lyM_0 rfl rfl ?_
        refine T_iload_n dX9_dig_63 rfl ?_
        obtain ⟨hi_12, h⟩ := chk_some h
        refine T_iald dX9_dig_64 lyM_7 (inb_in hi_12) ?_
        obtain ⟨rfl, rfl⟩ := sm2 h
        exact T_iret dX9_dig_65 ⟨rfl, rfl, rfl, rfl⟩
      · have h := it_pos hc h
        refine T_bipush dX9_dig_32 bp_m2 ?_
        obtain ⟨rfl, rfl⟩ := sm2 h
        exact T_iret dX9_dig_34 ⟨rfl, rfl, rfl, rfl⟩
    · have h := it_pos hc h
      refine T_bipush dX9_dig_20 bp_m4 ?_
      obtain ⟨rfl, rfl⟩ := sm2 h
      exact T_iret dX9_dig_22 ⟨rfl, rfl, rfl, rfl⟩
  · have h := it_pos hc h
    refine T_iconst dX9_dig_8 ic_m1 ?_
    obtain ⟨rfl, rfl⟩ := sm2 h
    exact T_iret dX9_dig_9 ⟨rfl, rfl, rfl, rfl⟩
def F_X9_fill (M : Mem) (x1 : Int32) : Option (Int32 × Mem) :=
 bd1 (F_X9_isCell M x1) fun r_1 => if r_1 = 0 then some ((-1), M)
 else chk (inb x1 16 = true) (if (gI M 7 x1.toNatClampNeg) = 0 then some ((-4), M)
 else if (gI M 0 16) = 0 then some ((-4), M)
 else if (gI M 0 26) = (nI 40) then some ((-2), M)
 else bd1 (F_X9_note M) fun M_4 => chk (inb x1 16 = true) (chk (inb x1 16 = true) (lett (sI M_4 7 x1.toNatClampNeg ((gI M_4 7 x1.toNatClampNeg) - 1)) fun M_7 => lett (sI M_7 0 16 ((gI M_7 0 16) - 1)) fun M_10 => chk (inb x1 16 = true) (some (gI M_10 7 x1.toNatClampNeg, M_10)))))
set_option maxRecDepth 100000 in
set_option maxHeartbeats 4000000 in
theorem m_X9_fill (M : Mem) (x1 : Int32) (r : Int32) (M' : Mem) (h : F_X9_fill M x1 = some (r, M')) : Cal yX9_fill cX9_fill 2 (some .int) 0 3 0 0 false [vR (some 0), vI x1] LAYM rfm M (eqp (vI r) LAYM rfm M') := by
  refine Cal.of (by decide +kernel) (Nat.le_of_ble_eq_true rfl) (fun h => by cases h) ?_
  unfold F_X9_fill at h
  show T RX9 cX9_fill 2 (some .int) 0 3 0 0 false (eqp (vI r) LAYM rfm M') 0 [aR (some 0), aI x1] [] LAYM rfm M 0 0
  refine T_aload_n dX9_fill_0 rfl ?_
  refine T_iload_n dX9_fill_1 rfl ?_
  obtain ⟨r_1, hc_2, h⟩ := bd1_some h
  refine T_cvi (as := [vI x1]) dX9_fill_2 cw_X9_isCell ml_X9_212 mi_X9_isCell se_X9_isCell lyM_0 rfl (by decide) rfl (Nat.le_of_ble_eq_true rfl) (Nat.le_of_ble_eq_true rfl) (m_X9_isCell  M x1  _ hc_2) ?_
  refine T_if_ne (tgt := 10) dX9_fill_5 (by decide) (fun hc => ?_) (fun hc => ?_)
  · have h := it_neg hc h
    refine T_aload_n dX9_fill_10 rfl ?_
    refine T_getR dX9_fill_11 clOK_X9 fl_X9_32 lyM_0 rfl rfl ?_
    refine T_iload_n dX9_fill_14 rfl ?_
    obtain ⟨hi_3, h⟩ := chk_some h
    refine T_iald dX9_fill_15 lyM_7 (inb_in hi_3) ?_
    refine T_if_eq (tgt := 26) dX9_fill_16 (by decide) (fun hc => ?_) (fun hc => ?_)
    · have h := it_pos hc h
      refine T_bipush dX9_fill_26 bp_m4 ?_
      obtain ⟨rfl, rfl⟩ := sm2 h
      exact T_iret dX9_fill_28 ⟨rfl, rfl, rfl, rfl⟩
    · have h := it_neg hc h
      refine T_aload_n dX9_fill_19 rfl ?_
      refine T_getI dX9_fill_20 clOK_X9 fl_X9_164 lyM_0 rfl ?_
      refine T_if_ne (tgt := 29) dX9_fill_23 (by decide) (fun hc => ?_) (fun hc => ?_)
      · have h := it_neg hc h
        refine T_aload_n dX9_fill_29 rfl ?_
        refine T_getI dX9_fill_30 clOK_X9 fl_X9_167 lyM_0 rfl ?_
        refine T_bipush dX9_fill_33 bp_40 ?_
        refine T_icmp_ne (tgt := 41) dX9_fill_35 (by decide) (fun hc => ?_) (fun hc => ?_)
        · have h := it_neg hc h
          refine T_aload_n dX9_fill_41 rfl ?_
          obtain ⟨M_4, hc_5, h⟩ := bd1_some h
          refine T_cvv (as := []) dX9_fill_42 cw_X9_note ml_X9_257 mi_X9_note se_X9_note lyM_0 rfl (by decide) rfl (Nat.le_of_ble_eq_true rfl) (Nat.le_of_ble_eq_true rfl) (m_X9_note  M  _ hc_5) ?_
          refine T_aload_n dX9_fill_45 rfl ?_
          refine T_getR dX9_fill_46 clOK_X9 fl_X9_32 lyM_0 rfl rfl ?_
          refine T_iload_n dX9_fill_49 rfl ?_
          refine T_dup2_11 dX9_fill_50 rfl rfl ?_
          obtain ⟨hi_6, h⟩ := chk_some h
          refine T_iald dX9_fill_51 lyM_7 (inb_in hi_6) ?_
          refine T_iconst dX9_fill_52 ic_1 ?_
          refine T_isub dX9_fill_53 ?_
          obtain ⟨hi_9, h⟩ := chk_some h
          obtain ⟨M_7, eM_8, h⟩ := lett_some h
          refine T_iast dX9_fill_54 lyM_7 (inb_in hi_9) eM_8 ?_
          refine T_aload_n dX9_fill_55 rfl ?_
          refine T_dup dX9_fill_56 rfl ?_
          refine T_getI dX9_fill_57 clOK_X9 fl_X9_164 lyM_0 rfl ?_
          refine T_iconst dX9_fill_60 ic_1 ?_
          refine T_isub dX9_fill_61 ?_
          obtain ⟨M_10, eM_11, h⟩ := lett_some h
          refine T_putI dX9_fill_62 clOK_X9 fl_X9_164 (Or.inl rfl) lyM_0 rfl rfl eM_11 ?_
          refine T_aload_n dX9_fill_65 rfl ?_
          refine T_getR dX9_fill_66 clOK_X9 fl_X9_32 lyM_0 rfl rfl ?_
          refine T_iload_n dX9_fill_69 rfl ?_
          obtain ⟨hi_12, h⟩ := chk_some h
          refine T_iald dX9_fill_70 lyM_7 (inb_in hi_12) ?_
          obtain ⟨rfl, rfl⟩ := sm2 h
          exact T_iret dX9_fill_71 ⟨rfl, rfl, rfl, rfl⟩
        · have h := it_pos hc h
          refine T_bipush dX9_fill_38 bp_m2 ?_
          obtain ⟨rfl, rfl⟩ := sm2 h
          exact T_iret dX9_fill_40 ⟨rfl, rfl, rfl, rfl⟩
      · have h := it_pos hc h
        refine T_bipush dX9_fill_26 bp_m4 ?_
        obtain ⟨rfl, rfl⟩ := sm2 h
        exact T_iret dX9_fill_28 ⟨rfl, rfl, rfl, rfl⟩
  · have h := it_pos hc h
    refine T_iconst dX9_fill_8 ic_m1 ?_
    obtain ⟨rfl, rfl⟩ := sm2 h
    exact T_iret dX9_fill_9 ⟨rfl, rfl, rfl, rfl⟩
def X9_rain_L55 (x1 : Int32) : Int64 × Int32 × Mem → Option ((Int64 × Int32 × Mem) ⊕ (Int32 × Mem))
  | (x3, x5, M) =>
    if (gI M 0 11) ≤ x5 then bd2 (F_X9_holeCount M) fun r_9 M_10 => some (.inr (r_9, M_10))
    else chk (inb x5 16 = true) (if (gI M 7 x5.toNatClampNeg) ≤ 0 then lett (x5 + 1) fun x_13 => some (.inl (x3, x_13, M))
    else lett (lrm (48271 * x3) 2147483647) fun x_15 => chk (inb x5 16 = true) (if 0 ≤ (lg_cmp (lrm x_15 12) x1.toInt64) then chk (inb x5 16 = true) (lett (sI M 7 x5.toNatClampNeg ((gI M 7 x5.toNatClampNeg) - 0)) fun M_18 => lett (x5 + 1) fun x_21 => some (.inl (x_15, x_21, M_18)))
    else chk (inb x5 16 = true) (lett (sI M 7 x5.toNatClampNeg ((gI M 7 x5.toNatClampNeg) - 1)) fun M_23 => lett (x5 + 1) fun x_26 => some (.inl (x_15, x_26, M_23)))))
def F_X9_rain (M : Mem) (x1 : Int32) (x2 : Int32) : Option (Int32 × Mem) :=
 bd1 (F_X9_in x1 0 (nI 12)) fun r_1 => if r_1 = 0 then some ((-1), M)
 else bd1 (F_X9_in x2 1 2147483646) fun r_3 => if r_3 = 0 then some ((-1), M)
 else if (gI M 0 11) = 0 then some ((-4), M)
 else if (gI M 0 26) = (nI 40) then some ((-2), M)
 else bd1 (F_X9_note M) fun M_5 => lett (x2.toInt64) fun x_7 => loop (X9_rain_L55 x1) FU (x_7, 0, M_5)
set_option maxRecDepth 100000 in
set_option maxHeartbeats 4000000 in
theorem s_X9_rain_L55 (x1 : Int32) (x3 : Int64) (x5 : Int32) (M : Mem) {Po : Po_} (x : (Int64 × Int32 × Mem) ⊕ (Int32 × Mem)) (h : X9_rain_L55 x1 (x3, x5, M) = some x) (hI : ∀ (ix3 : Int64) (ix5 : Int32) (iM : Mem), x = .inl (ix3, ix5, iM) → T RX9 cX9_rain 6 (some .int) 0 6 0 0 false Po 55 [aR (some 0), aI x1, aU, aJ ix3, aU, aI ix5] [] LAYM rfm iM 0 0) (hE0 : ∀ (er : Int32) (eM : Mem), x = .inr (er, eM) → Po (vI er) LAYM rfm eM) : T RX9 cX9_rain 6 (some .int) 0 6 0 0 false Po 55 [aR (some 0), aI x1, aU, aJ x3, aU, aI x5] [] LAYM rfm M 0 0 := by
  unfold X9_rain_L55 at h
  simp only at h
  refine T_iload dX9_rain_55 rfl ?_
  refine T_aload_n dX9_rain_57 rfl ?_
  refine T_getI dX9_rain_58 clOK_X9 fl_X9_155 lyM_0 rfl ?_
  refine T_icmp_ge (tgt := 116) dX9_rain_61 (by decide) (fun hc => ?_) (fun hc => ?_)
  · have h := it_pos hc h
    refine T_aload_n dX9_rain_116 rfl ?_
    obtain ⟨r_9, M_10, hc_11, h⟩ := bd2_some h
    refine T_cvi (as := []) dX9_rain_117 cw_X9_holeCount ml_X9_267 mi_X9_holeCount se_X9_holeCount lyM_0 rfl (by decide) rfl (Nat.le_of_ble_eq_true rfl) (Nat.le_of_ble_eq_true rfl) (m_X9_holeCount  M  _ _ hc_11) ?_
    obtain rfl := sm1 h
    exact T_iret dX9_rain_120 (hE0 _ _ rfl)
  · have h := it_neg hc h
    refine T_aload_n dX9_rain_64 rfl ?_
    refine T_getR dX9_rain_65 clOK_X9 fl_X9_32 lyM_0 rfl rfl ?_
    refine T_iload dX9_rain_68 rfl ?_
    obtain ⟨hi_12, h⟩ := chk_some h
    refine T_iald dX9_rain_70 lyM_7 (inb_in hi_12) ?_
    refine T_if_le (tgt := 110) dX9_rain_71 (by decide) (fun hc => ?_) (fun hc => ?_)
    · have h := it_pos hc h
      obtain ⟨x_13, ex_14, h⟩ := lett_some h
      refine T_iinc (L' := [aR (some 0), aI x1, aU, aJ x3, aU, aI x_13]) dX9_rain_110 rfl (ic_inc ic_1 ex_14) (Nat.le_of_ble_eq_true rfl) rfl ?_
      refine T_goto (tgt := 55) dX9_rain_113 (by decide) ?_
      obtain rfl := sm1 h
      exact hI _ _ _ rfl
    · have h := it_neg hc h
      refine T_ldc2 dX9_rain_74 kl_X9_261 ?_
      refine T_lload_n dX9_rain_77 rfl ?_
      refine T_lmul dX9_rain_78 ?_
      refine T_ldc2 dX9_rain_79 kl_X9_263 ?_
      refine T_lrem dX9_rain_82 (by decide) ?_
      obtain ⟨x_15, ex_16, h⟩ := lett_some h
      refine T_topJ ex_16 ?_
      refine T_lstore_n (i := 3) (L' := [aR (some 0), aI x1, aU, aJ x_15, aU, aI x5]) dX9_rain_83 rfl (Nat.le_of_ble_eq_true rfl) rfl ?_
      refine T_aload_n dX9_rain_84 rfl ?_
      refine T_getR dX9_rain_85 clOK_X9 fl_X9_32 lyM_0 rfl rfl ?_
      refine T_iload dX9_rain_88 rfl ?_
      refine T_dup2_11 dX9_rain_90 rfl rfl ?_
      obtain ⟨hi_17, h⟩ := chk_some h
      refine T_iald dX9_rain_91 lyM_7 (inb_in hi_17) ?_
      refine T_lload_n dX9_rain_92 rfl ?_
      refine T_ldc2 dX9_rain_93 kl_X9_265 ?_
      refine T_lrem dX9_rain_96 (by decide) ?_
      refine T_iload_n dX9_rain_97 rfl ?_
      refine T_i2l dX9_rain_98 ?_
      refine T_lcmp dX9_rain_99 ?_
      refine T_if_ge (tgt := 107) dX9_rain_100 (by decide) (fun hc => ?_) (fun hc => ?_)
      · have h := it_pos hc h
        refine T_iconst dX9_rain_107 ic_0 ?_
        refine T_isub dX9_rain_108 ?_
        obtain ⟨hi_20, h⟩ := chk_some h
        obtain ⟨M_18, eM_19, h⟩ := lett_some h
        refine T_iast dX9_rain_109 lyM_7 (inb_in hi_20) eM_19 ?_
        obtain ⟨x_21, ex_22, h⟩ := lett_some h
        refine T_iinc (L' := [aR (some 0), aI x1, aU, aJ x_15, aU, aI x_21]) dX9_rain_110 rfl (ic_inc ic_1 ex_22) (Nat.le_of_ble_eq_true rfl) rfl ?_
        refine T_goto (tgt := 55) dX9_rain_113 (by decide) ?_
        obtain rfl := sm1 h
        exact hI _ _ _ rfl
      · have h := it_neg hc h
        refine T_iconst dX9_rain_103 ic_1 ?_
        refine T_goto (tgt := 108) dX9_rain_104 (by decide) ?_
        refine T_isub dX9_rain_108 ?_
        obtain ⟨hi_25, h⟩ := chk_some h
        obtain ⟨M_23, eM_24, h⟩ := lett_some h
        refine T_iast dX9_rain_109 lyM_7 (inb_in hi_25) eM_24 ?_
        obtain ⟨x_26, ex_27, h⟩ := lett_some h
        refine T_iinc (L' := [aR (some 0), aI x1, aU, aJ x_15, aU, aI x_26]) dX9_rain_110 rfl (ic_inc ic_1 ex_27) (Nat.le_of_ble_eq_true rfl) rfl ?_
        refine T_goto (tgt := 55) dX9_rain_113 (by decide) ?_
        obtain rfl := sm1 h
        exact hI _ _ _ rfl
set_option maxRecDepth 100000 in
set_option maxHeartbeats 4000000 in
theorem l_X9_rain_L55 (x1 : Int32) {Po : Po_} (er : Int32) (eM : Mem) : ∀ (k : Nat) (x3 : Int64) (x5 : Int32) (M : Mem), loop (X9_rain_L55 x1) k (x3, x5, M) = some (er, eM) → (Po (vI er) LAYM rfm eM) → T RX9 cX9_rain 6 (some .int) 0 6 0 0 false Po 55 [aR (some 0), aI x1, aU, aJ x3, aU, aI x5] [] LAYM rfm M 0 0 := by
  intro k
  induction k with
  | zero => intro x3 x5 M h; cases h
  | succ k ih =>
    intro x3 x5 M h hE
    obtain ⟨x, hx, hx1, hx2⟩ := loop_succ h
    exact s_X9_rain_L55  x1  x3 x5 M x hx (fun q0 q1 q2 e => ih q0 q1 q2 (hx1 _ e) hE) (fun q0 q1 e => by cases hx2 _ e; exact hE)
set_option maxRecDepth 100000 in
set_option maxHeartbeats 4000000 in
theorem m_X9_rain (M : Mem) (x1 : Int32) (x2 : Int32) (r : Int32) (M' : Mem) (h : F_X9_rain M x1 x2 = some (r, M')) : Cal yX9_rain cX9_rain 6 (some .int) 0 6 0 0 false [vR (some 0), vI x1, vI x2] LAYM rfm M (eqp (vI r) LAYM rfm M') := by
  refine Cal.of (by decide +kernel) (Nat.le_of_ble_eq_true rfl) (fun h => by cases h) ?_
  unfold F_X9_rain at h
  show T RX9 cX9_rain 6 (some .int) 0 6 0 0 false (eqp (vI r) LAYM rfm M') 0 [aR (some 0), aI x1, aI x2, aU, aU, aU] [] LAYM rfm M 0 0
  refine T_iload_n dX9_rain_0 rfl ?_
  refine T_iconst dX9_rain_1 ic_0 ?_
  refine T_bipush dX9_rain_2 bp_12 ?_
  obtain ⟨r_1, hc_2, h⟩ := bd1_some h
  refine T_csi (as := [vI x1, vI 0, vI (nI 12)]) dX9_rain_4 cw_X9_in ml_X9_79 mt_X9_in rfl (Nat.le_of_ble_eq_true rfl) (Nat.le_of_ble_eq_true rfl) (m_X9_in M x1 0 (nI 12)  _ hc_2) ?_
  refine T_if_eq (tgt := 21) dX9_rain_7 (by decide) (fun hc => ?_) (fun hc => ?_)
  · have h := it_pos hc h
    refine T_iconst dX9_rain_21 ic_m1 ?_
    obtain ⟨rfl, rfl⟩ := sm2 h
    exact T_iret dX9_rain_22 ⟨rfl, rfl, rfl, rfl⟩
  · have h := it_neg hc h
    refine T_iload_n dX9_rain_10 rfl ?_
    refine T_iconst dX9_rain_11 ic_1 ?_
    refine T_ldcw dX9_rain_12 kc_X9_260 ?_
    obtain ⟨r_3, hc_4, h⟩ := bd1_some h
    refine T_csi (as := [vI x2, vI 1, vI 2147483646]) dX9_rain_15 cw_X9_in ml_X9_79 mt_X9_in rfl (Nat.le_of_ble_eq_true rfl) (Nat.le_of_ble_eq_true rfl) (m_X9_in M x2 1 2147483646  _ hc_4) ?_
    refine T_if_ne (tgt := 23) dX9_rain_18 (by decide) (fun hc => ?_) (fun hc => ?_)
    · have h := it_neg hc h
      refine T_aload_n dX9_rain_23 rfl ?_
      refine T_getI dX9_rain_24 clOK_X9 fl_X9_155 lyM_0 rfl ?_
      refine T_if_ne (tgt := 33) dX9_rain_27 (by decide) (fun hc => ?_) (fun hc => ?_)
      · have h := it_neg hc h
        refine T_aload_n dX9_rain_33 rfl ?_
        refine T_getI dX9_rain_34 clOK_X9 fl_X9_167 lyM_0 rfl ?_
        refine T_bipush dX9_rain_37 bp_40 ?_
        refine T_icmp_ne (tgt := 45) dX9_rain_39 (by decide) (fun hc => ?_) (fun hc => ?_)
        · have h := it_neg hc h
          refine T_aload_n dX9_rain_45 rfl ?_
          obtain ⟨M_5, hc_6, h⟩ := bd1_some h
          refine T_cvv (as := []) dX9_rain_46 cw_X9_note ml_X9_257 mi_X9_note se_X9_note lyM_0 rfl (by decide) rfl (Nat.le_of_ble_eq_true rfl) (Nat.le_of_ble_eq_true rfl) (m_X9_note  M  _ hc_6) ?_
          refine T_iload_n dX9_rain_49 rfl ?_
          refine T_i2l dX9_rain_50 ?_
          obtain ⟨x_7, ex_8, h⟩ := lett_some h
          refine T_topJ ex_8 ?_
          refine T_lstore_n (i := 3) (L' := [aR (some 0), aI x1, aI x2, aJ x_7, aU, aU]) dX9_rain_51 rfl (Nat.le_of_ble_eq_true rfl) rfl ?_
          refine T_iconst dX9_rain_52 ic_0 ?_
          refine T_istore (i := 5) (L' := [aR (some 0), aI x1, aI x2, aJ x_7, aU, aI 0]) dX9_rain_53 (Nat.le_of_ble_eq_true rfl) rfl ?_
          refine T_mask [true, true, false, true, true, true] rfl ?_
          exact l_X9_rain_L55  x1  _ _ FU x_7 0 M_5 h ⟨rfl, rfl, rfl, rfl⟩
        · have h := it_pos hc h
          refine T_bipush dX9_rain_42 bp_m2 ?_
          obtain ⟨rfl, rfl⟩ := sm2 h
          exact T_iret dX9_rain_44 ⟨rfl, rfl, rfl, rfl⟩
      · have h := it_pos hc h
        refine T_bipush dX9_rain_30 bp_m4 ?_
        obtain ⟨rfl, rfl⟩ := sm2 h
        exact T_iret dX9_rain_32 ⟨rfl, rfl, rfl, rfl⟩
    · have h := it_pos hc h
      refine T_iconst dX9_rain_21 ic_m1 ?_
      obtain ⟨rfl, rfl⟩ := sm2 h
      exact T_iret dX9_rain_22 ⟨rfl, rfl, rfl, rfl⟩
def F_X9_undo (M : Mem) (x1 : Int32) : Option (Int32 × Mem) :=
 bd1 (F_X9_in x1 0 (gI M 0 26)) fun r_1 => if r_1 = 0 then some ((-1), M)
 else lett ((gI M 0 26) - x1) fun x_3 => if x_3 ≤ 0 then some (x_3, M)
 else bd1 (F_X9_readBack M 13 ((nI 17) * x1)) fun M_5 => lett (sI M_5 0 26 x1) fun M_7 => some (x_3, M_7)
set_option maxRecDepth 100000 in
set_option maxHeartbeats 4000000 in
theorem m_X9_undo (M : Mem) (x1 : Int32) (r : Int32) (M' : Mem) (h : F_X9_undo M x1 = some (r, M')) : Cal yX9_undo cX9_undo 3 (some .int) 0 2 0 0 false [vR (some 0), vI x1] LAYM rfm M (eqp (vI r) LAYM rfm M') := by
  refine Cal.of (by decide +kernel) (Nat.le_of_ble_eq_true rfl) (fun h => by cases h) ?_
  unfold F_X9_undo at h
  show T RX9 cX9_undo 3 (some .int) 0 2 0 0 false (eqp (vI r) LAYM rfm M') 0 [aR (some 0), aI x1, aU] [] LAYM rfm M 0 0
  refine T_iload_n dX9_undo_0 rfl ?_
  refine T_iconst dX9_undo_1 ic_0 ?_
  refine T_aload_n dX9_undo_2 rfl ?_
  refine T_getI dX9_undo_3 clOK_X9 fl_X9_167 lyM_0 rfl ?_
  obtain ⟨r_1, hc_2, h⟩ := bd1_some h
  refine T_csi (as := [vI x1, vI 0, vI (gI M 0 26)]) dX9_undo_6 cw_X9_in ml_X9_79 mt_X9_in rfl (Nat.le_of_ble_eq_true rfl) (Nat.le_of_ble_eq_true rfl) (m_X9_in M x1 0 (gI M 0 26)  _ hc_2) ?_
  refine T_if_ne (tgt := 14) dX9_undo_9 (by decide) (fun hc => ?_) (fun hc => ?_)
  · have h := it_neg hc h
    refine T_aload_n dX9_undo_14 rfl ?_
    refine T_getI dX9_undo_15 clOK_X9 fl_X9_167 lyM_0 rfl ?_
    refine T_iload_n dX9_undo_18 rfl ?_
    refine T_isub dX9_undo_19 ?_
    obtain ⟨x_3, ex_4, h⟩ := lett_some h
    refine T_topI ex_4 ?_
    refine T_istore_n (i := 2) (L' := [aR (some 0), aI x1, aI x_3]) dX9_undo_20 rfl (Nat.le_of_ble_eq_true rfl) rfl ?_
    refine T_iload_n dX9_undo_21 rfl ?_
    refine T_if_le (tgt := 42) dX9_undo_22 (by decide) (fun hc => ?_) (fun hc => ?_)
    · have h := it_pos hc h
      refine T_iload_n dX9_undo_42 rfl ?_
      obtain ⟨rfl, rfl⟩ := sm2 h
      exact T_iret dX9_undo_43 ⟨rfl, rfl, rfl, rfl⟩
    · have h := it_neg hc h
      refine T_aload_n dX9_undo_25 rfl ?_
      refine T_aload_n dX9_undo_26 rfl ?_
      refine T_getR dX9_undo_27 clOK_X9 fl_X9_50 lyM_0 rfl rfl ?_
      refine T_bipush dX9_undo_30 bp_17 ?_
      refine T_iload_n dX9_undo_32 rfl ?_
      refine T_imul dX9_undo_33 ?_
      obtain ⟨M_5, hc_6, h⟩ := bd1_some h
      refine T_cvv (as := [vR (some 13), vI ((nI 17) * x1)]) dX9_undo_34 cw_X9_readBack ml_X9_271 mi_X9_readBack se_X9_readBack lyM_0 rfl (by decide) rfl (Nat.le_of_ble_eq_true rfl) (Nat.le_of_ble_eq_true rfl) (m_X9_readBack  M 13 ((nI 17) * x1) rfl _ hc_6) ?_
      refine T_aload_n dX9_undo_37 rfl ?_
      refine T_iload_n dX9_undo_38 rfl ?_
      obtain ⟨M_7, eM_8, h⟩ := lett_some h
      refine T_putI dX9_undo_39 clOK_X9 fl_X9_167 (Or.inl rfl) lyM_0 rfl rfl eM_8 ?_
      refine T_iload_n dX9_undo_42 rfl ?_
      obtain ⟨rfl, rfl⟩ := sm2 h
      exact T_iret dX9_undo_43 ⟨rfl, rfl, rfl, rfl⟩
  · have h := it_pos hc h
    refine T_iconst dX9_undo_12 ic_m1 ?_
    obtain ⟨rfl, rfl⟩ := sm2 h
    exact T_iret dX9_undo_13 ⟨rfl, rfl, rfl, rfl⟩
def F_X9_isImage (x0 : Int32) : Option (Int32) :=
 bd1 (F_X9_in x0 0 (nI 2)) fun r_1 => chk (r_1 = 0 ∨ r_1 = 1) (some r_1)
set_option maxRecDepth 100000 in
set_option maxHeartbeats 4000000 in
theorem m_X9_isImage (M : Mem) (x0 : Int32) (r : Int32) (h : F_X9_isImage x0 = some r) : Cal yX9_isImage cX9_isImage 1 (some .boolean) 0 2 0 0 false [vI x0] LAYM rfm M (eqp (vI r) LAYM rfm M) := by
  refine Cal.of (by decide +kernel) (Nat.le_of_ble_eq_true rfl) (fun h => by cases h) ?_
  unfold F_X9_isImage at h
  show T RX9 cX9_isImage 1 (some .boolean) 0 2 0 0 false (eqp (vI r) LAYM rfm M) 0 [aI x0] [] LAYM rfm M 0 0
  refine T_iload_n dX9_isImage_0 rfl ?_
  refine T_iconst dX9_isImage_1 ic_0 ?_
  refine T_iconst dX9_isImage_2 ic_2 ?_
  obtain ⟨r_1, hc_2, h⟩ := bd1_some h
  refine T_csi (as := [vI x0, vI 0, vI (nI 2)]) dX9_isImage_3 cw_X9_in ml_X9_79 mt_X9_in rfl (Nat.le_of_ble_eq_true rfl) (Nat.le_of_ble_eq_true rfl) (m_X9_in M x0 0 (nI 2)  _ hc_2) ?_
  obtain ⟨hb_3, h⟩ := chk_some h
  obtain rfl := sm1 h
  exact T_zret dX9_isImage_6 hb_3 ⟨rfl, rfl, rfl, rfl⟩
def F_X9_image (M : Mem) (x1 : Int32) : Option (Int32 × Mem) :=
 bd1 (F_X9_isImage x1) fun r_1 => if r_1 = 0 then some ((-1), M)
 else if (gI M 0 11) = 0 then some ((-4), M)
 else bd1 (F_X9_write M 15 ((nI 17) * x1)) fun M_3 => chk (inb x1 3 = true) (lett (sI M_3 14 x1.toNatClampNeg 1) fun M_5 => bd2 (F_X9_holeCount M_5) fun r_8 M_9 => some (r_8, M_9))
set_option maxRecDepth 100000 in
set_option maxHeartbeats 4000000 in
theorem m_X9_image (M : Mem) (x1 : Int32) (r : Int32) (M' : Mem) (h : F_X9_image M x1 = some (r, M')) : Cal yX9_image cX9_image 2 (some .int) 0 6 0 0 false [vR (some 0), vI x1] LAYM rfm M (eqp (vI r) LAYM rfm M') := by
  refine Cal.of (by decide +kernel) (Nat.le_of_ble_eq_true rfl) (fun h => by cases h) ?_
  unfold F_X9_image at h
  show T RX9 cX9_image 2 (some .int) 0 6 0 0 false (eqp (vI r) LAYM rfm M') 0 [aR (some 0), aI x1] [] LAYM rfm M 0 0
  refine T_iload_n dX9_image_0 rfl ?_
  obtain ⟨r_1, hc_2, h⟩ := bd1_some h
  refine T_csi (as := [vI x1]) dX9_image_1 cw_X9_isImage ml_X9_274 mt_X9_isImage rfl (Nat.le_of_ble_eq_true rfl) (Nat.le_of_ble_eq_true rfl) (m_X9_isImage M x1  _ hc_2) ?_
  refine T_if_ne (tgt := 9) dX9_image_4 (by decide) (fun hc => ?_) (fun hc => ?_)
  · have h := it_neg hc h
    refine T_aload_n dX9_image_9 rfl ?_
    refine T_getI dX9_image_10 clOK_X9 fl_X9_155 lyM_0 rfl ?_
    refine T_if_ne (tgt := 19) dX9_image_13 (by decide) (fun hc => ?_) (fun hc => ?_)
    · have h := it_neg hc h
      refine T_aload_n dX9_image_19 rfl ?_
      refine T_aload_n dX9_image_20 rfl ?_
      refine T_getR dX9_image_21 clOK_X9 fl_X9_56 lyM_0 rfl rfl ?_
      refine T_bipush dX9_image_24 bp_17 ?_
      refine T_iload_n dX9_image_26 rfl ?_
      refine T_imul dX9_image_27 ?_
      obtain ⟨M_3, hc_4, h⟩ := bd1_some h
      refine T_cvv (as := [vR (some 15), vI ((nI 17) * x1)]) dX9_image_28 cw_X9_write ml_X9_253 mi_X9_write se_X9_write lyM_0 rfl (by decide) rfl (Nat.le_of_ble_eq_true rfl) (Nat.le_of_ble_eq_true rfl) (m_X9_write  M 15 ((nI 17) * x1) rfl _ hc_4) ?_
      refine T_aload_n dX9_image_31 rfl ?_
      refine T_getR dX9_image_32 clOK_X9 fl_X9_53 lyM_0 rfl rfl ?_
      refine T_iload_n dX9_image_35 rfl ?_
      refine T_iconst dX9_image_36 ic_1 ?_
      obtain ⟨hi_7, h⟩ := chk_some h
      obtain ⟨M_5, eM_6, h⟩ := lett_some h
      refine T_iast dX9_image_37 lyM_14 (inb_in hi_7) eM_6 ?_
      refine T_aload_n dX9_image_38 rfl ?_
      obtain ⟨r_8, M_9, hc_10, h⟩ := bd2_some h
      refine T_cvi (as := []) dX9_image_39 cw_X9_holeCount ml_X9_267 mi_X9_holeCount se_X9_holeCount lyM_0 rfl (by decide) rfl (Nat.le_of_ble_eq_true rfl) (Nat.le_of_ble_eq_true rfl) (m_X9_holeCount  M_5  _ _ hc_10) ?_
      obtain ⟨rfl, rfl⟩ := sm2 h
      exact T_iret dX9_image_42 ⟨rfl, rfl, rfl, rfl⟩
    · have h := it_pos hc h
      refine T_bipush dX9_image_16 bp_m4 ?_
      obtain ⟨rfl, rfl⟩ := sm2 h
      exact T_iret dX9_image_18 ⟨rfl, rfl, rfl, rfl⟩
  · have h := it_pos hc h
    refine T_iconst dX9_image_7 ic_m1 ?_
    obtain ⟨rfl, rfl⟩ := sm2 h
    exact T_iret dX9_image_8 ⟨rfl, rfl, rfl, rfl⟩
def F_X9_needImage (M : Mem) (x1 : Int32) : Option (Int32 × Mem) :=
 chk (inb x1 3 = true) (if (gI M 14 x1.toNatClampNeg) = 0 then bd2 (F_X9_meet M 1) fun r_11 M_12 => some (r_11, M_12)
 else bd1 (F_X9_dugIn M 15 ((nI 17) * x1)) fun r_2 => bd2 (F_X9_findHoles M r_2 12) fun r_4 M_5 => lett (sI M_5 0 25 r_4) fun M_7 => bd1 (F_X9_layHoles M_7) fun M_9 => some (0, M_9))
set_option maxRecDepth 100000 in
set_option maxHeartbeats 4000000 in
theorem m_X9_needImage (M : Mem) (x1 : Int32) (r : Int32) (M' : Mem) (h : F_X9_needImage M x1 = some (r, M')) : Cal yX9_needImage cX9_needImage 2 (some .int) 0 5 0 0 false [vR (some 0), vI x1] LAYM rfm M (eqp (vI r) LAYM rfm M') := by
  refine Cal.of (by decide +kernel) (Nat.le_of_ble_eq_true rfl) (fun h => by cases h) ?_
  unfold F_X9_needImage at h
  show T RX9 cX9_needImage 2 (some .int) 0 5 0 0 false (eqp (vI r) LAYM rfm M') 0 [aR (some 0), aI x1] [] LAYM rfm M 0 0
  refine T_aload_n dX9_needImage_0 rfl ?_
  refine T_getR dX9_needImage_1 clOK_X9 fl_X9_53 lyM_0 rfl rfl ?_
  refine T_iload_n dX9_needImage_4 rfl ?_
  obtain ⟨hi_1, h⟩ := chk_some h
  refine T_iald dX9_needImage_5 lyM_14 (inb_in hi_1) ?_
  refine T_if_ne (tgt := 15) dX9_needImage_6 (by decide) (fun hc => ?_) (fun hc => ?_)
  · have h := it_neg hc h
    refine T_aload_n dX9_needImage_15 rfl ?_
    refine T_aload_n dX9_needImage_16 rfl ?_
    refine T_aload_n dX9_needImage_17 rfl ?_
    refine T_getR dX9_needImage_18 clOK_X9 fl_X9_56 lyM_0 rfl rfl ?_
    refine T_bipush dX9_needImage_21 bp_17 ?_
    refine T_iload_n dX9_needImage_23 rfl ?_
    refine T_imul dX9_needImage_24 ?_
    obtain ⟨r_2, hc_3, h⟩ := bd1_some h
    refine T_csi (as := [vR (some 15), vI ((nI 17) * x1)]) dX9_needImage_25 cw_X9_dugIn ml_X9_179 mt_X9_dugIn rfl (Nat.le_of_ble_eq_true rfl) (Nat.le_of_ble_eq_true rfl) (m_X9_dugIn  M 15 ((nI 17) * x1) rfl _ hc_3) ?_
    refine T_aload_n dX9_needImage_28 rfl ?_
    refine T_getR dX9_needImage_29 clOK_X9 fl_X9_47 lyM_0 rfl rfl ?_
    obtain ⟨r_4, M_5, hc_6, h⟩ := bd2_some h
    refine T_cvi (as := [vI r_2, vR (some 12)]) dX9_needImage_32 cw_X9_findHoles ml_X9_183 mi_X9_findHoles se_X9_findHoles lyM_0 rfl (by decide) rfl (Nat.le_of_ble_eq_true rfl) (Nat.le_of_ble_eq_true rfl) (m_X9_findHoles  M r_2 12 rfl _ _ hc_6) ?_
    obtain ⟨M_7, eM_8, h⟩ := lett_some h
    refine T_putI dX9_needImage_35 clOK_X9 fl_X9_277 (Or.inl rfl) lyM_0 rfl rfl eM_8 ?_
    refine T_aload_n dX9_needImage_38 rfl ?_
    obtain ⟨M_9, hc_10, h⟩ := bd1_some h
    refine T_cvv (as := []) dX9_needImage_39 cw_X9_layHoles ml_X9_190 mi_X9_layHoles se_X9_layHoles lyM_0 rfl (by decide) rfl (Nat.le_of_ble_eq_true rfl) (Nat.le_of_ble_eq_true rfl) (m_X9_layHoles  M_7  _ hc_10) ?_
    refine T_iconst dX9_needImage_42 ic_0 ?_
    obtain ⟨rfl, rfl⟩ := sm2 h
    exact T_iret dX9_needImage_43 ⟨rfl, rfl, rfl, rfl⟩
  · have h := it_pos hc h
    refine T_aload_n dX9_needImage_9 rfl ?_
    refine T_iconst dX9_needImage_10 ic_1 ?_
    obtain ⟨r_11, M_12, hc_13, h⟩ := bd2_some h
    refine T_cvi (as := [vI 1]) dX9_needImage_11 cw_X9_meet ml_X9_87 mi_X9_meet se_X9_meet lyM_0 rfl (by decide) rfl (Nat.le_of_ble_eq_true rfl) (Nat.le_of_ble_eq_true rfl) (m_X9_meet  M 1  _ _ hc_13) ?_
    obtain ⟨rfl, rfl⟩ := sm2 h
    exact T_iret dX9_needImage_14 ⟨rfl, rfl, rfl, rfl⟩
def F_X9_on (M : Mem) (x1 : Int32) : Option (Int32 × Mem) :=
 bd1 (F_X9_isImage x1) fun r_1 => if r_1 = 0 then some ((-1), M)
 else chk (inb x1 3 = true) (if (gI M 14 x1.toNatClampNeg) = 0 then bd2 (F_X9_meet M 1) fun r_11 M_12 => some (r_11, M_12)
 else bd1 (F_X9_readBack M 15 ((nI 17) * x1)) fun M_4 => lett (sI M_4 0 26 0) fun M_6 => bd2 (F_X9_holeCount M_6) fun r_8 M_9 => some (r_8, M_9))
set_option maxRecDepth 100000 in
set_option maxHeartbeats 4000000 in
theorem m_X9_on (M : Mem) (x1 : Int32) (r : Int32) (M' : Mem) (h : F_X9_on M x1 = some (r, M')) : Cal yX9_on cX9_on 2 (some .int) 0 6 0 0 false [vR (some 0), vI x1] LAYM rfm M (eqp (vI r) LAYM rfm M') := by
  refine Cal.of (by decide +kernel) (Nat.le_of_ble_eq_true rfl) (fun h => by cases h) ?_
  unfold F_X9_on at h
  show T RX9 cX9_on 2 (some .int) 0 6 0 0 false (eqp (vI r) LAYM rfm M') 0 [aR (some 0), aI x1] [] LAYM rfm M 0 0
  refine T_iload_n dX9_on_0 rfl ?_
  obtain ⟨r_1, hc_2, h⟩ := bd1_some h
  refine T_csi (as := [vI x1]) dX9_on_1 cw_X9_isImage ml_X9_274 mt_X9_isImage rfl (Nat.le_of_ble_eq_true rfl) (Nat.le_of_ble_eq_true rfl) (m_X9_isImage M x1  _ hc_2) ?_
  refine T_if_ne (tgt := 9) dX9_on_4 (by decide) (fun hc => ?_) (fun hc => ?_)
  · have h := it_neg hc h
    refine T_aload_n dX9_on_9 rfl ?_
    refine T_getR dX9_on_10 clOK_X9 fl_X9_53 lyM_0 rfl rfl ?_
    refine T_iload_n dX9_on_13 rfl ?_
    obtain ⟨hi_3, h⟩ := chk_some h
    refine T_iald dX9_on_14 lyM_14 (inb_in hi_3) ?_
    refine T_if_ne (tgt := 24) dX9_on_15 (by decide) (fun hc => ?_) (fun hc => ?_)
    · have h := it_neg hc h
      refine T_aload_n dX9_on_24 rfl ?_
      refine T_aload_n dX9_on_25 rfl ?_
      refine T_getR dX9_on_26 clOK_X9 fl_X9_56 lyM_0 rfl rfl ?_
      refine T_bipush dX9_on_29 bp_17 ?_
      refine T_iload_n dX9_on_31 rfl ?_
      refine T_imul dX9_on_32 ?_
      obtain ⟨M_4, hc_5, h⟩ := bd1_some h
      refine T_cvv (as := [vR (some 15), vI ((nI 17) * x1)]) dX9_on_33 cw_X9_readBack ml_X9_271 mi_X9_readBack se_X9_readBack lyM_0 rfl (by decide) rfl (Nat.le_of_ble_eq_true rfl) (Nat.le_of_ble_eq_true rfl) (m_X9_readBack  M 15 ((nI 17) * x1) rfl _ hc_5) ?_
      refine T_aload_n dX9_on_36 rfl ?_
      refine T_iconst dX9_on_37 ic_0 ?_
      obtain ⟨M_6, eM_7, h⟩ := lett_some h
      refine T_putI dX9_on_38 clOK_X9 fl_X9_167 (Or.inl rfl) lyM_0 rfl rfl eM_7 ?_
      refine T_aload_n dX9_on_41 rfl ?_
      obtain ⟨r_8, M_9, hc_10, h⟩ := bd2_some h
      refine T_cvi (as := []) dX9_on_42 cw_X9_holeCount ml_X9_267 mi_X9_holeCount se_X9_holeCount lyM_0 rfl (by decide) rfl (Nat.le_of_ble_eq_true rfl) (Nat.le_of_ble_eq_true rfl) (m_X9_holeCount  M_6  _ _ hc_10) ?_
      obtain ⟨rfl, rfl⟩ := sm2 h
      exact T_iret dX9_on_45 ⟨rfl, rfl, rfl, rfl⟩
    · have h := it_pos hc h
      refine T_aload_n dX9_on_18 rfl ?_
      refine T_iconst dX9_on_19 ic_1 ?_
      obtain ⟨r_11, M_12, hc_13, h⟩ := bd2_some h
      refine T_cvi (as := [vI 1]) dX9_on_20 cw_X9_meet ml_X9_87 mi_X9_meet se_X9_meet lyM_0 rfl (by decide) rfl (Nat.le_of_ble_eq_true rfl) (Nat.le_of_ble_eq_true rfl) (m_X9_meet  M 1  _ _ hc_13) ?_
      obtain ⟨rfl, rfl⟩ := sm2 h
      exact T_iret dX9_on_23 ⟨rfl, rfl, rfl, rfl⟩
  · have h := it_pos hc h
    refine T_iconst dX9_on_7 ic_m1 ?_
    obtain ⟨rfl, rfl⟩ := sm2 h
    exact T_iret dX9_on_8 ⟨rfl, rfl, rfl, rfl⟩
def F_X9_then (M : Mem) (x1 : Int32) (x2 : Int32) (x3 : Int32) : Option (Int32 × Mem) :=
 bd1 (F_X9_isImage x1) fun r_1 => if r_1 = 0 then some ((-1), M)
 else bd1 (F_X9_in x3 0 (nI 4)) fun r_3 => if r_3 = 0 then some ((-1), M)
 else bd2 (F_X9_needImage M x1) fun r_5 M_6 => if 0 ≤ r_5 then bd1 (F_X9_in x2 0 ((gI M_6 0 25) - 1)) fun r_8 => if r_8 = 0 then some ((-1), M_6)
 else chk (inb x2 8 = true) (bd1 (F_X9_holeOf M_6 15 ((nI 17) * x1) (gI M_6 12 x2.toNatClampNeg) x3) fun r_11 => bd2 (F_X9_ask M_6 r_11 1) fun r_13 M_14 => some (r_13, M_14))
 else some (r_5, M_6)
set_option maxRecDepth 100000 in
set_option maxHeartbeats 4000000 in
theorem m_X9_then (M : Mem) (x1 : Int32) (x2 : Int32) (x3 : Int32) (r : Int32) (M' : Mem) (h : F_X9_then M x1 x2 x3 = some (r, M')) : Cal yX9_then cX9_then 5 (some .int) 0 6 0 0 false [vR (some 0), vI x1, vI x2, vI x3] LAYM rfm M (eqp (vI r) LAYM rfm M') := by
  refine Cal.of (by decide +kernel) (Nat.le_of_ble_eq_true rfl) (fun h => by cases h) ?_
  unfold F_X9_then at h
  show T RX9 cX9_then 5 (some .int) 0 6 0 0 false (eqp (vI r) LAYM rfm M') 0 [aR (some 0), aI x1, aI x2, aI x3, aU] [] LAYM rfm M 0 0
  refine T_iload_n dX9_then_0 rfl ?_
  obtain ⟨r_1, hc_2, h⟩ := bd1_some h
  refine T_csi (as := [vI x1]) dX9_then_1 cw_X9_isImage ml_X9_274 mt_X9_isImage rfl (Nat.le_of_ble_eq_true rfl) (Nat.le_of_ble_eq_true rfl) (m_X9_isImage M x1  _ hc_2) ?_
  refine T_if_eq (tgt := 16) dX9_then_4 (by decide) (fun hc => ?_) (fun hc => ?_)
  · have h := it_pos hc h
    refine T_iconst dX9_then_16 ic_m1 ?_
    obtain ⟨rfl, rfl⟩ := sm2 h
    exact T_iret dX9_then_17 ⟨rfl, rfl, rfl, rfl⟩
  · have h := it_neg hc h
    refine T_iload_n dX9_then_7 rfl ?_
    refine T_iconst dX9_then_8 ic_0 ?_
    refine T_iconst dX9_then_9 ic_4 ?_
    obtain ⟨r_3, hc_4, h⟩ := bd1_some h
    refine T_csi (as := [vI x3, vI 0, vI (nI 4)]) dX9_then_10 cw_X9_in ml_X9_79 mt_X9_in rfl (Nat.le_of_ble_eq_true rfl) (Nat.le_of_ble_eq_true rfl) (m_X9_in M x3 0 (nI 4)  _ hc_4) ?_
    refine T_if_ne (tgt := 18) dX9_then_13 (by decide) (fun hc => ?_) (fun hc => ?_)
    · have h := it_neg hc h
      refine T_aload_n dX9_then_18 rfl ?_
      refine T_iload_n dX9_then_19 rfl ?_
      obtain ⟨r_5, M_6, hc_7, h⟩ := bd2_some h
      refine T_cvi (as := [vI x1]) dX9_then_20 cw_X9_needImage ml_X9_280 mi_X9_needImage se_X9_needImage lyM_0 rfl (by decide) rfl (Nat.le_of_ble_eq_true rfl) (Nat.le_of_ble_eq_true rfl) (m_X9_needImage  M x1  _ _ hc_7) ?_
      refine T_istore (i := 4) (L' := [aR (some 0), aI x1, aI x2, aI x3, aI r_5]) dX9_then_23 (Nat.le_of_ble_eq_true rfl) rfl ?_
      refine T_iload dX9_then_25 rfl ?_
      refine T_if_ge (tgt := 33) dX9_then_27 (by decide) (fun hc => ?_) (fun hc => ?_)
      · have h := it_pos hc h
        refine T_iload_n dX9_then_33 rfl ?_
        refine T_iconst dX9_then_34 ic_0 ?_
        refine T_aload_n dX9_then_35 rfl ?_
        refine T_getI dX9_then_36 clOK_X9 fl_X9_277 lyM_0 rfl ?_
        refine T_iconst dX9_then_39 ic_1 ?_
        refine T_isub dX9_then_40 ?_
        obtain ⟨r_8, hc_9, h⟩ := bd1_some h
        refine T_csi (as := [vI x2, vI 0, vI ((gI M_6 0 25) - 1)]) dX9_then_41 cw_X9_in ml_X9_79 mt_X9_in rfl (Nat.le_of_ble_eq_true rfl) (Nat.le_of_ble_eq_true rfl) (m_X9_in M_6 x2 0 ((gI M_6 0 25) - 1)  _ hc_9) ?_
        refine T_if_eq (tgt := 74) dX9_then_44 (by decide) (fun hc => ?_) (fun hc => ?_)
        · have h := it_pos hc h
          refine T_iconst dX9_then_74 ic_m1 ?_
          obtain ⟨rfl, rfl⟩ := sm2 h
          exact T_iret dX9_then_75 ⟨rfl, rfl, rfl, rfl⟩
        · have h := it_neg hc h
          refine T_aload_n dX9_then_47 rfl ?_
          refine T_aload_n dX9_then_48 rfl ?_
          refine T_aload_n dX9_then_49 rfl ?_
          refine T_getR dX9_then_50 clOK_X9 fl_X9_56 lyM_0 rfl rfl ?_
          refine T_bipush dX9_then_53 bp_17 ?_
          refine T_iload_n dX9_then_55 rfl ?_
          refine T_imul dX9_then_56 ?_
          refine T_aload_n dX9_then_57 rfl ?_
          refine T_getR dX9_then_58 clOK_X9 fl_X9_47 lyM_0 rfl rfl ?_
          refine T_iload_n dX9_then_61 rfl ?_
          obtain ⟨hi_10, h⟩ := chk_some h
          refine T_iald dX9_then_62 lyM_12 (inb_in hi_10) ?_
          refine T_iload_n dX9_then_63 rfl ?_
          obtain ⟨r_11, hc_12, h⟩ := bd1_some h
          refine T_cvi (as := [vR (some 15), vI ((nI 17) * x1), vI (gI M_6 12 x2.toNatClampNeg), vI x3]) dX9_then_64 cw_X9_holeOf ml_X9_249 mi_X9_holeOf se_X9_holeOf lyM_0 rfl (by decide) rfl (Nat.le_of_ble_eq_true rfl) (Nat.le_of_ble_eq_true rfl) (m_X9_holeOf  M_6 15 ((nI 17) * x1) (gI M_6 12 x2.toNatClampNeg) x3 rfl _ hc_12) ?_
          refine T_iconst dX9_then_67 ic_1 ?_
          obtain ⟨r_13, M_14, hc_15, h⟩ := bd2_some h
          refine T_cvi (as := [vI r_11, vI 1]) dX9_then_68 cw_X9_ask ml_X9_105 mi_X9_ask se_X9_ask lyM_0 rfl (by decide) rfl (Nat.le_of_ble_eq_true rfl) (Nat.le_of_ble_eq_true rfl) (m_X9_ask  M_6 r_11 1  _ _ hc_15) ?_
          refine T_goto (tgt := 75) dX9_then_71 (by decide) ?_
          obtain ⟨rfl, rfl⟩ := sm2 h
          exact T_iret dX9_then_75 ⟨rfl, rfl, rfl, rfl⟩
      · have h := it_neg hc h
        refine T_iload dX9_then_30 rfl ?_
        obtain ⟨rfl, rfl⟩ := sm2 h
        exact T_iret dX9_then_32 ⟨rfl, rfl, rfl, rfl⟩
    · have h := it_pos hc h
      refine T_iconst dX9_then_16 ic_m1 ?_
      obtain ⟨rfl, rfl⟩ := sm2 h
      exact T_iret dX9_then_17 ⟨rfl, rfl, rfl, rfl⟩
def F_X9_isSame (M : Mem) (x1 : Int32) (x2 : Int32) (x3 : Int32) (x4 : Int32) : Option (Int32) :=
 chk (inb x1 6 = true) (chk (inb x3 8 = true) (chk (inb x4 8 = true) (bd1 (F_X9_areSame M (gI M 9 x1.toNatClampNeg) 15 ((nI 17) * x2) (gI M 12 x3.toNatClampNeg) (gI M 11 x4.toNatClampNeg)) fun r_4 => chk (r_4 = 0 ∨ r_4 = 1) (some r_4))))
set_option maxRecDepth 100000 in
set_option maxHeartbeats 4000000 in
theorem m_X9_isSame (M : Mem) (x1 : Int32) (x2 : Int32) (x3 : Int32) (x4 : Int32) (r : Int32) (h : F_X9_isSame M x1 x2 x3 x4 = some r) : Cal yX9_isSame cX9_isSame 5 (some .boolean) 0 6 0 0 false [vR (some 0), vI x1, vI x2, vI x3, vI x4] LAYM rfm M (eqp (vI r) LAYM rfm M) := by
  refine Cal.of (by decide +kernel) (Nat.le_of_ble_eq_true rfl) (fun h => by cases h) ?_
  unfold F_X9_isSame at h
  show T RX9 cX9_isSame 5 (some .boolean) 0 6 0 0 false (eqp (vI r) LAYM rfm M) 0 [aR (some 0), aI x1, aI x2, aI x3, aI x4] [] LAYM rfm M 0 0
  refine T_aload_n dX9_isSame_0 rfl ?_
  refine T_aload_n dX9_isSame_1 rfl ?_
  refine T_getR dX9_isSame_2 clOK_X9 fl_X9_38 lyM_0 rfl rfl ?_
  refine T_iload_n dX9_isSame_5 rfl ?_
  obtain ⟨hi_1, h⟩ := chk_some h
  refine T_iald dX9_isSame_6 lyM_9 (inb_in hi_1) ?_
  refine T_aload_n dX9_isSame_7 rfl ?_
  refine T_getR dX9_isSame_8 clOK_X9 fl_X9_56 lyM_0 rfl rfl ?_
  refine T_bipush dX9_isSame_11 bp_17 ?_
  refine T_iload_n dX9_isSame_13 rfl ?_
  refine T_imul dX9_isSame_14 ?_
  refine T_aload_n dX9_isSame_15 rfl ?_
  refine T_getR dX9_isSame_16 clOK_X9 fl_X9_47 lyM_0 rfl rfl ?_
  refine T_iload_n dX9_isSame_19 rfl ?_
  obtain ⟨hi_2, h⟩ := chk_some h
  refine T_iald dX9_isSame_20 lyM_12 (inb_in hi_2) ?_
  refine T_aload_n dX9_isSame_21 rfl ?_
  refine T_getR dX9_isSame_22 clOK_X9 fl_X9_44 lyM_0 rfl rfl ?_
  refine T_iload dX9_isSame_25 rfl ?_
  obtain ⟨hi_3, h⟩ := chk_some h
  refine T_iald dX9_isSame_27 lyM_11 (inb_in hi_3) ?_
  obtain ⟨r_4, hc_5, h⟩ := bd1_some h
  refine T_cvi (as := [vI (gI M 9 x1.toNatClampNeg), vR (some 15), vI ((nI 17) * x2), vI (gI M 12 x3.toNatClampNeg), vI (gI M 11 x4.toNatClampNeg)]) dX9_isSame_28 cw_X9_areSame ml_X9_233 mi_X9_areSame se_X9_areSame lyM_0 rfl (by decide) rfl (Nat.le_of_ble_eq_true rfl) (Nat.le_of_ble_eq_true rfl) (m_X9_areSame  M (gI M 9 x1.toNatClampNeg) 15 ((nI 17) * x2) (gI M 12 x3.toNatClampNeg) (gI M 11 x4.toNatClampNeg) rfl _ hc_5) ?_
  obtain ⟨hb_6, h⟩ := chk_some h
  obtain rfl := sm1 h
  exact T_zret dX9_isSame_31 hb_6 ⟨rfl, rfl, rfl, rfl⟩
def X9_same_J24 (M : Mem) (x1 : Int32) (x2 : Int32) (x3 : Int32) (x4 : Int32) (s0 : Int32) : Option (Int32 × Mem) :=
 if 0 ≤ s0 then bd1 (F_X9_in x3 0 ((gI M 0 25) - 1)) fun r_3 => if r_3 = 0 then some ((-1), M)
 else bd1 (F_X9_in x4 0 ((gI M 0 23) - 1)) fun r_5 => if r_5 = 0 then some ((-1), M)
 else bd1 (F_X9_isSame M x1 x2 x3 x4) fun r_7 => if r_7 = 0 then some (0, M)
 else some (1, M)
 else some (s0, M)
def X9_same_J15 (M : Mem) (x1 : Int32) (x2 : Int32) (x3 : Int32) (x4 : Int32) : Option (Int32 × Mem) :=
 X9_same_J24 M x1 x2 x3 x4 (-1)
def F_X9_same (M : Mem) (x1 : Int32) (x2 : Int32) (x3 : Int32) (x4 : Int32) : Option (Int32 × Mem) :=
 bd1 (F_X9_isLaw M x1) fun r_1 => if r_1 = 0 then X9_same_J15 M x1 x2 x3 x4
 else bd1 (F_X9_isImage x2) fun r_9 => if r_9 = 0 then X9_same_J15 M x1 x2 x3 x4
 else bd2 (F_X9_needImage M x2) fun r_11 M_12 => X9_same_J24 M_12 x1 x2 x3 x4 r_11
set_option maxRecDepth 100000 in
set_option maxHeartbeats 4000000 in
theorem j_X9_same_J24 (M : Mem) (x1 : Int32) (x2 : Int32) (x3 : Int32) (x4 : Int32) (s0 : Int32) (r : Int32) (M' : Mem) (h : X9_same_J24 M x1 x2 x3 x4 s0 = some (r, M')) : T RX9 cX9_same 6 (some .int) 0 7 0 0 false (eqp (vI r) LAYM rfm M') 24 [aR (some 0), aI x1, aI x2, aI x3, aI x4, aU] [vI s0] LAYM rfm M 0 0 := by
  unfold X9_same_J24 at h
  refine T_istore (i := 5) (L' := [aR (some 0), aI x1, aI x2, aI x3, aI x4, aI s0]) dX9_same_24 (Nat.le_of_ble_eq_true rfl) rfl ?_
  refine T_iload dX9_same_26 rfl ?_
  refine T_if_ge (tgt := 34) dX9_same_28 (by decide) (fun hc => ?_) (fun hc => ?_)
  · have h := it_pos hc h
    refine T_iload_n dX9_same_34 rfl ?_
    refine T_iconst dX9_same_35 ic_0 ?_
    refine T_aload_n dX9_same_36 rfl ?_
    refine T_getI dX9_same_37 clOK_X9 fl_X9_277 lyM_0 rfl ?_
    refine T_iconst dX9_same_40 ic_1 ?_
    refine T_isub dX9_same_41 ?_
    obtain ⟨r_3, hc_4, h⟩ := bd1_some h
    refine T_csi (as := [vI x3, vI 0, vI ((gI M 0 25) - 1)]) dX9_same_42 cw_X9_in ml_X9_79 mt_X9_in rfl (Nat.le_of_ble_eq_true rfl) (Nat.le_of_ble_eq_true rfl) (m_X9_in M x3 0 ((gI M 0 25) - 1)  _ hc_4) ?_
    refine T_if_eq (tgt := 63) dX9_same_45 (by decide) (fun hc => ?_) (fun hc => ?_)
    · have h := it_pos hc h
      refine T_iconst dX9_same_63 ic_m1 ?_
      obtain ⟨rfl, rfl⟩ := sm2 h
      exact T_iret dX9_same_64 ⟨rfl, rfl, rfl, rfl⟩
    · have h := it_neg hc h
      refine T_iload dX9_same_48 rfl ?_
      refine T_iconst dX9_same_50 ic_0 ?_
      refine T_aload_n dX9_same_51 rfl ?_
      refine T_getI dX9_same_52 clOK_X9 fl_X9_187 lyM_0 rfl ?_
      refine T_iconst dX9_same_55 ic_1 ?_
      refine T_isub dX9_same_56 ?_
      obtain ⟨r_5, hc_6, h⟩ := bd1_some h
      refine T_csi (as := [vI x4, vI 0, vI ((gI M 0 23) - 1)]) dX9_same_57 cw_X9_in ml_X9_79 mt_X9_in rfl (Nat.le_of_ble_eq_true rfl) (Nat.le_of_ble_eq_true rfl) (m_X9_in M x4 0 ((gI M 0 23) - 1)  _ hc_6) ?_
      refine T_if_ne (tgt := 65) dX9_same_60 (by decide) (fun hc => ?_) (fun hc => ?_)
      · have h := it_neg hc h
        refine T_aload_n dX9_same_65 rfl ?_
        refine T_iload_n dX9_same_66 rfl ?_
        refine T_iload_n dX9_same_67 rfl ?_
        refine T_iload_n dX9_same_68 rfl ?_
        refine T_iload dX9_same_69 rfl ?_
        obtain ⟨r_7, hc_8, h⟩ := bd1_some h
        refine T_cvi (as := [vI x1, vI x2, vI x3, vI x4]) dX9_same_71 cw_X9_isSame ml_X9_283 mi_X9_isSame se_X9_isSame lyM_0 rfl (by decide) rfl (Nat.le_of_ble_eq_true rfl) (Nat.le_of_ble_eq_true rfl) (m_X9_isSame  M x1 x2 x3 x4  _ hc_8) ?_
        refine T_if_eq (tgt := 81) dX9_same_74 (by decide) (fun hc => ?_) (fun hc => ?_)
        · have h := it_pos hc h
          refine T_iconst dX9_same_81 ic_0 ?_
          obtain ⟨rfl, rfl⟩ := sm2 h
          exact T_iret dX9_same_82 ⟨rfl, rfl, rfl, rfl⟩
        · have h := it_neg hc h
          refine T_iconst dX9_same_77 ic_1 ?_
          refine T_goto (tgt := 82) dX9_same_78 (by decide) ?_
          obtain ⟨rfl, rfl⟩ := sm2 h
          exact T_iret dX9_same_82 ⟨rfl, rfl, rfl, rfl⟩
      · have h := it_pos hc h
        refine T_iconst dX9_same_63 ic_m1 ?_
        obtain ⟨rfl, rfl⟩ := sm2 h
        exact T_iret dX9_same_64 ⟨rfl, rfl, rfl, rfl⟩
  · have h := it_neg hc h
    refine T_iload dX9_same_31 rfl ?_
    obtain ⟨rfl, rfl⟩ := sm2 h
    exact T_iret dX9_same_33 ⟨rfl, rfl, rfl, rfl⟩
set_option maxRecDepth 100000 in
set_option maxHeartbeats 4000000 in
theorem j_X9_same_J15 (M : Mem) (x1 : Int32) (x2 : Int32) (x3 : Int32) (x4 : Int32) (r : Int32) (M' : Mem) (h : X9_same_J15 M x1 x2 x3 x4 = some (r, M')) : T RX9 cX9_same 6 (some .int) 0 7 0 0 false (eqp (vI r) LAYM rfm M') 15 [aR (some 0), aI x1, aI x2, aI x3, aI x4, aU] [] LAYM rfm M 0 0 := by
  unfold X9_same_J15 at h
  refine T_iconst dX9_same_15 ic_m1 ?_
  refine T_goto (tgt := 24) dX9_same_16 (by decide) ?_
  exact j_X9_same_J24  M x1 x2 x3 x4 (-1)  _ _ h
set_option maxRecDepth 100000 in
set_option maxHeartbeats 4000000 in
theorem m_X9_same (M : Mem) (x1 : Int32) (x2 : Int32) (x3 : Int32) (x4 : Int32) (r : Int32) (M' : Mem) (h : F_X9_same M x1 x2 x3 x4 = some (r, M')) : Cal yX9_same cX9_same 6 (some .int) 0 7 0 0 false [vR (some 0), vI x1, vI x2, vI x3, vI x4] LAYM rfm M (eqp (vI r) LAYM rfm M') := by
  refine Cal.of (by decide +kernel) (Nat.le_of_ble_eq_true rfl) (fun h => by cases h) ?_
  unfold F_X9_same at h
  show T RX9 cX9_same 6 (some .int) 0 7 0 0 false (eqp (vI r) LAYM rfm M') 0 [aR (some 0), aI x1, aI x2, aI x3, aI x4, aU] [] LAYM rfm M 0 0
  refine T_aload_n dX9_same_0 rfl ?_
  refine T_iload_n dX9_same_1 rfl ?_
  obtain ⟨r_1, hc_2, h⟩ := bd1_some h
  refine T_cvi (as := [vI x1]) dX9_same_2 cw_X9_isLaw ml_X9_218 mi_X9_isLaw se_X9_isLaw lyM_0 rfl (by decide) rfl (Nat.le_of_ble_eq_true rfl) (Nat.le_of_ble_eq_true rfl) (m_X9_isLaw  M x1  _ hc_2) ?_
  refine T_if_eq (tgt := 15) dX9_same_5 (by decide) (fun hc => ?_) (fun hc => ?_)
  · have h := it_pos hc h
    exact j_X9_same_J15  M x1 x2 x3 x4  _ _ h
  · have h := it_neg hc h
    refine T_iload_n dX9_same_8 rfl ?_
    obtain ⟨r_9, hc_10, h⟩ := bd1_some h
    refine T_csi (as := [vI x2]) dX9_same_9 cw_X9_isImage ml_X9_274 mt_X9_isImage rfl (Nat.le_of_ble_eq_true rfl) (Nat.le_of_ble_eq_true rfl) (m_X9_isImage M x2  _ hc_10) ?_
    refine T_if_ne (tgt := 19) dX9_same_12 (by decide) (fun hc => ?_) (fun hc => ?_)
    · have h := it_neg hc h
      refine T_aload_n dX9_same_19 rfl ?_
      refine T_iload_n dX9_same_20 rfl ?_
      obtain ⟨r_11, M_12, hc_13, h⟩ := bd2_some h
      refine T_cvi (as := [vI x2]) dX9_same_21 cw_X9_needImage ml_X9_280 mi_X9_needImage se_X9_needImage lyM_0 rfl (by decide) rfl (Nat.le_of_ble_eq_true rfl) (Nat.le_of_ble_eq_true rfl) (m_X9_needImage  M x2  _ _ hc_13) ?_
      exact j_X9_same_J24  M_12 x1 x2 x3 x4 r_11  _ _ h
    · have h := it_pos hc h
      exact j_X9_same_J15  M x1 x2 x3 x4  _ _ h
def X9_sameSet_L6 (M : Mem) (x1 : Int32) (x2 : Int32) (x3 : Int32) : Int32 × Int32 → Option ((Int32 × Int32) ⊕ (Int32))
  | (x4, x5) =>
    if (gI M 0 23) ≤ x5 then some (.inr x4)
    else bd1 (F_X9_isSame M x1 x2 x3 x5) fun r_1 => if r_1 = 0 then lett (x4 ||| 0) fun x_3 => lett (x5 + 1) fun x_5 => some (.inl (x_3, x_5))
    else lett (x4 ||| (ish 1 x5)) fun x_7 => lett (x5 + 1) fun x_9 => some (.inl (x_7, x_9))
def F_X9_sameSet (M : Mem) (x1 : Int32) (x2 : Int32) (x3 : Int32) : Option (Int32) :=
 loop (X9_sameSet_L6 M x1 x2 x3) FU (0, 0)
set_option maxRecDepth 100000 in
set_option maxHeartbeats 4000000 in
theorem s_X9_sameSet_L6 (M : Mem) (x1 : Int32) (x2 : Int32) (x3 : Int32) (x4 : Int32) (x5 : Int32) {Po : Po_} (x : (Int32 × Int32) ⊕ (Int32)) (h : X9_sameSet_L6 M x1 x2 x3 (x4, x5) = some x) (hI : ∀ (ix4 : Int32) (ix5 : Int32), x = .inl (ix4, ix5) → T RX9 cX9_sameSet 6 (some .int) 0 7 0 0 false Po 6 [aR (some 0), aI x1, aI x2, aI x3, aI ix4, aI ix5] [] LAYM rfm M 0 0) (hE0 : ∀ (er : Int32), x = .inr er → Po (vI er) LAYM rfm M) : T RX9 cX9_sameSet 6 (some .int) 0 7 0 0 false Po 6 [aR (some 0), aI x1, aI x2, aI x3, aI x4, aI x5] [] LAYM rfm M 0 0 := by
  unfold X9_sameSet_L6 at h
  simp only at h
  refine T_iload dX9_sameSet_6 rfl ?_
  refine T_aload_n dX9_sameSet_8 rfl ?_
  refine T_getI dX9_sameSet_9 clOK_X9 fl_X9_187 lyM_0 rfl ?_
  refine T_icmp_ge (tgt := 46) dX9_sameSet_12 (by decide) (fun hc => ?_) (fun hc => ?_)
  · have h := it_pos hc h
    refine T_iload dX9_sameSet_46 rfl ?_
    obtain rfl := sm1 h
    exact T_iret dX9_sameSet_48 (hE0 _ rfl)
  · have h := it_neg hc h
    refine T_iload dX9_sameSet_15 rfl ?_
    refine T_aload_n dX9_sameSet_17 rfl ?_
    refine T_iload_n dX9_sameSet_18 rfl ?_
    refine T_iload_n dX9_sameSet_19 rfl ?_
    refine T_iload_n dX9_sameSet_20 rfl ?_
    refine T_iload dX9_sameSet_21 rfl ?_
    obtain ⟨r_1, hc_2, h⟩ := bd1_some h
    refine T_cvi (as := [vI x1, vI x2, vI x3, vI x5]) dX9_sameSet_23 cw_X9_isSame ml_X9_283 mi_X9_isSame se_X9_isSame lyM_0 rfl (by decide) rfl (Nat.le_of_ble_eq_true rfl) (Nat.le_of_ble_eq_true rfl) (m_X9_isSame  M x1 x2 x3 x5  _ hc_2) ?_
    refine T_if_eq (tgt := 36) dX9_sameSet_26 (by decide) (fun hc => ?_) (fun hc => ?_)
    · have h := it_pos hc h
      refine T_iconst dX9_sameSet_36 ic_0 ?_
      refine T_ior dX9_sameSet_37 ?_
      obtain ⟨x_3, ex_4, h⟩ := lett_some h
      refine T_topI ex_4 ?_
      refine T_istore (i := 4) (L' := [aR (some 0), aI x1, aI x2, aI x3, aI x_3, aI x5]) dX9_sameSet_38 (Nat.le_of_ble_eq_true rfl) rfl ?_
      obtain ⟨x_5, ex_6, h⟩ := lett_some h
      refine T_iinc (L' := [aR (some 0), aI x1, aI x2, aI x3, aI x_3, aI x_5]) dX9_sameSet_40 rfl (ic_inc ic_1 ex_6) (Nat.le_of_ble_eq_true rfl) rfl ?_
      refine T_goto (tgt := 6) dX9_sameSet_43 (by decide) ?_
      obtain rfl := sm1 h
      exact hI _ _ rfl
    · have h := it_neg hc h
      refine T_iconst dX9_sameSet_29 ic_1 ?_
      refine T_iload dX9_sameSet_30 rfl ?_
      refine T_ishl dX9_sameSet_32 ?_
      refine T_goto (tgt := 37) dX9_sameSet_33 (by decide) ?_
      refine T_ior dX9_sameSet_37 ?_
      obtain ⟨x_7, ex_8, h⟩ := lett_some h
      refine T_topI ex_8 ?_
      refine T_istore (i := 4) (L' := [aR (some 0), aI x1, aI x2, aI x3, aI x_7, aI x5]) dX9_sameSet_38 (Nat.le_of_ble_eq_true rfl) rfl ?_
      obtain ⟨x_9, ex_10, h⟩ := lett_some h
      refine T_iinc (L' := [aR (some 0), aI x1, aI x2, aI x3, aI x_7, aI x_9]) dX9_sameSet_40 rfl (ic_inc ic_1 ex_10) (Nat.le_of_ble_eq_true rfl) rfl ?_
      refine T_goto (tgt := 6) dX9_sameSet_43 (by decide) ?_
      obtain rfl := sm1 h
      exact hI _ _ rfl
set_option maxRecDepth 100000 in
set_option maxHeartbeats 4000000 in
theorem l_X9_sameSet_L6 (M : Mem) (x1 : Int32) (x2 : Int32) (x3 : Int32) {Po : Po_} (er : Int32) : ∀ (k : Nat) (x4 : Int32) (x5 : Int32), loop (X9_sameSet_L6 M x1 x2 x3) k (x4, x5) = some er → (Po (vI er) LAYM rfm M) → T RX9 cX9_sameSet 6 (some .int) 0 7 0 0 false Po 6 [aR (some 0), aI x1, aI x2, aI x3, aI x4, aI x5] [] LAYM rfm M 0 0 := by
  intro k
  induction k with
  | zero => intro x4 x5 h; cases h
  | succ k ih =>
    intro x4 x5 h hE
    obtain ⟨x, hx, hx1, hx2⟩ := loop_succ h
    exact s_X9_sameSet_L6  M x1 x2 x3  x4 x5 x hx (fun q0 q1 e => ih q0 q1 (hx1 _ e) hE) (fun q0 e => by cases hx2 _ e; exact hE)
set_option maxRecDepth 100000 in
set_option maxHeartbeats 4000000 in
theorem m_X9_sameSet (M : Mem) (x1 : Int32) (x2 : Int32) (x3 : Int32) (r : Int32) (h : F_X9_sameSet M x1 x2 x3 = some r) : Cal yX9_sameSet cX9_sameSet 6 (some .int) 0 7 0 0 false [vR (some 0), vI x1, vI x2, vI x3] LAYM rfm M (eqp (vI r) LAYM rfm M) := by
  refine Cal.of (by decide +kernel) (Nat.le_of_ble_eq_true rfl) (fun h => by cases h) ?_
  unfold F_X9_sameSet at h
  show T RX9 cX9_sameSet 6 (some .int) 0 7 0 0 false (eqp (vI r) LAYM rfm M) 0 [aR (some 0), aI x1, aI x2, aI x3, aU, aU] [] LAYM rfm M 0 0
  refine T_iconst dX9_sameSet_0 ic_0 ?_
  refine T_istore (i := 4) (L' := [aR (some 0), aI x1, aI x2, aI x3, aI 0, aU]) dX9_sameSet_1 (Nat.le_of_ble_eq_true rfl) rfl ?_
  refine T_iconst dX9_sameSet_3 ic_0 ?_
  refine T_istore (i := 5) (L' := [aR (some 0), aI x1, aI x2, aI x3, aI 0, aI 0]) dX9_sameSet_4 (Nat.le_of_ble_eq_true rfl) rfl ?_
  exact l_X9_sameSet_L6  M x1 x2 x3  _ FU 0 0 h ⟨rfl, rfl, rfl, rfl⟩
