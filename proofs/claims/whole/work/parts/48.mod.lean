def X9_bottom_L6 (M : Mem) (p1 : Nat) (x2 : Int32) (x3 : Int32) : Int32 × Int32 → Option ((Int32 × Int32) ⊕ (Int32))
  | (x4, x5) =>
    if (gI M 0 11) ≤ x5 then some (.inr x4)
    else bd1 (F_X9_has x3 x5) fun r_1 => if r_1 = 0 then lett (x5 + 1) fun x_3 => some (.inl (x4, x_3))
    else chk (inb (x2 + x5) (alM p1) = true) (bd1 (F_X9_greater x4 (gI M p1 (x2 + x5).toNatClampNeg)) fun r_6 => lett (x5 + 1) fun x_8 => some (.inl (r_6, x_8)))
def F_X9_bottom (M : Mem) (p1 : Nat) (x2 : Int32) (x3 : Int32) : Option (Int32) :=
 loop (X9_bottom_L6 M p1 x2 x3) FU (0, 0)
set_option maxRecDepth 100000 in
set_option maxHeartbeats 4000000 in
theorem s_X9_bottom_L6 (M : Mem) (p1 : Nat) (x2 : Int32) (x3 : Int32) (h1 : isAM p1 = true) (x4 : Int32) (x5 : Int32) {Po : Po_} (x : (Int32 × Int32) ⊕ (Int32)) (h : X9_bottom_L6 M p1 x2 x3 (x4, x5) = some x) (hI : ∀ (ix4 : Int32) (ix5 : Int32), x = .inl (ix4, ix5) → T RX9 cX9_bottom 6 (some .int) 0 2 0 0 false Po 6 [aR (some 0), aR (some p1), aI x2, aI x3, aI ix4, aI ix5] [] LAYM rfm M 0 0) (hE0 : ∀ (er : Int32), x = .inr er → Po (vI er) LAYM rfm M) : T RX9 cX9_bottom 6 (some .int) 0 2 0 0 false Po 6 [aR (some 0), aR (some p1), aI x2, aI x3, aI x4, aI x5] [] LAYM rfm M 0 0 := by
  unfold X9_bottom_L6 at h
  simp only at h
  refine T_iload dX9_bottom_6 rfl ?_
  refine T_aload_n dX9_bottom_8 rfl ?_
  refine T_getI dX9_bottom_9 clOK_X9 fl_X9_155 lyM_0 rfl ?_
  refine T_icmp_ge (tgt := 48) dX9_bottom_12 (by decide) (fun hc => ?_) (fun hc => ?_)
  · have h := it_pos hc h
    refine T_iload dX9_bottom_48 rfl ?_
    obtain rfl := sm1 h
    exact T_iret dX9_bottom_50 (hE0 _ rfl)
  · have h := it_neg hc h
    refine T_iload_n dX9_bottom_15 rfl ?_
    refine T_iload dX9_bottom_16 rfl ?_
    obtain ⟨r_1, hc_2, h⟩ := bd1_some h
    refine T_csi (as := [vI x3, vI x5]) dX9_bottom_18 cw_X9_has ml_X9_170 mt_X9_has rfl (Nat.le_of_ble_eq_true rfl) (Nat.le_of_ble_eq_true rfl) (m_X9_has M x3 x5  _ hc_2) ?_
    refine T_if_eq (tgt := 38) dX9_bottom_21 (by decide) (fun hc => ?_) (fun hc => ?_)
    · have h := it_pos hc h
      refine T_iload dX9_bottom_38 rfl ?_
      refine T_istore (i := 4) (L' := [aR (some 0), aR (some p1), aI x2, aI x3, aI x4, aI x5]) dX9_bottom_40 (Nat.le_of_ble_eq_true rfl) rfl ?_
      obtain ⟨x_3, ex_4, h⟩ := lett_some h
      refine T_iinc (L' := [aR (some 0), aR (some p1), aI x2, aI x3, aI x4, aI x_3]) dX9_bottom_42 rfl (ic_inc ic_1 ex_4) (Nat.le_of_ble_eq_true rfl) rfl ?_
      refine T_goto (tgt := 6) dX9_bottom_45 (by decide) ?_
      obtain rfl := sm1 h
      exact hI _ _ rfl
    · have h := it_neg hc h
      refine T_iload dX9_bottom_24 rfl ?_
      refine T_aload_n dX9_bottom_26 rfl ?_
      refine T_iload_n dX9_bottom_27 rfl ?_
      refine T_iload dX9_bottom_28 rfl ?_
      refine T_iadd dX9_bottom_30 ?_
      obtain ⟨hi_5, h⟩ := chk_some h
      refine T_iald dX9_bottom_31 (lyAM h1) (inb_in hi_5) ?_
      obtain ⟨r_6, hc_7, h⟩ := bd1_some h
      refine T_csi (as := [vI x4, vI (gI M p1 (x2 + x5).toNatClampNeg)]) dX9_bottom_32 cw_X9_greater ml_X9_193 mt_X9_greater rfl (Nat.le_of_ble_eq_true rfl) (Nat.le_of_ble_eq_true rfl) (m_X9_greater M x4 (gI M p1 (x2 + x5).toNatClampNeg)  _ hc_7) ?_
      refine T_goto (tgt := 40) dX9_bottom_35 (by decide) ?_
      refine T_istore (i := 4) (L' := [aR (some 0), aR (some p1), aI x2, aI x3, aI r_6, aI x5]) dX9_bottom_40 (Nat.le_of_ble_eq_true rfl) rfl ?_
      obtain ⟨x_8, ex_9, h⟩ := lett_some h
      refine T_iinc (L' := [aR (some 0), aR (some p1), aI x2, aI x3, aI r_6, aI x_8]) dX9_bottom_42 rfl (ic_inc ic_1 ex_9) (Nat.le_of_ble_eq_true rfl) rfl ?_
      refine T_goto (tgt := 6) dX9_bottom_45 (by decide) ?_
      obtain rfl := sm1 h
      exact hI _ _ rfl
set_option maxRecDepth 100000 in
set_option maxHeartbeats 4000000 in
theorem l_X9_bottom_L6 (M : Mem) (p1 : Nat) (x2 : Int32) (x3 : Int32) (h1 : isAM p1 = true) {Po : Po_} (er : Int32) : ∀ (k : Nat) (x4 : Int32) (x5 : Int32), loop (X9_bottom_L6 M p1 x2 x3) k (x4, x5) = some er → (Po (vI er) LAYM rfm M) → T RX9 cX9_bottom 6 (some .int) 0 2 0 0 false Po 6 [aR (some 0), aR (some p1), aI x2, aI x3, aI x4, aI x5] [] LAYM rfm M 0 0 := by
  intro k
  induction k with
  | zero => intro x4 x5 h; cases h
  | succ k ih =>
    intro x4 x5 h hE
    obtain ⟨x, hx, hx1, hx2⟩ := loop_succ h
    exact s_X9_bottom_L6  M p1 x2 x3 h1 x4 x5 x hx (fun q0 q1 e => ih q0 q1 (hx1 _ e) hE) (fun q0 e => by cases hx2 _ e; exact hE)
set_option maxRecDepth 100000 in
set_option maxHeartbeats 4000000 in
theorem m_X9_bottom (M : Mem) (p1 : Nat) (x2 : Int32) (x3 : Int32) (h1 : isAM p1 = true) (r : Int32) (h : F_X9_bottom M p1 x2 x3 = some r) : Cal yX9_bottom cX9_bottom 6 (some .int) 0 2 0 0 false [vR (some 0), vR (some p1), vI x2, vI x3] LAYM rfm M (eqp (vI r) LAYM rfm M) := by
  refine Cal.of (by decide +kernel) (Nat.le_of_ble_eq_true rfl) (fun h => by cases h) ?_
  unfold F_X9_bottom at h
  show T RX9 cX9_bottom 6 (some .int) 0 2 0 0 false (eqp (vI r) LAYM rfm M) 0 [aR (some 0), aR (some p1), aI x2, aI x3, aU, aU] [] LAYM rfm M 0 0
  refine T_iconst dX9_bottom_0 ic_0 ?_
  refine T_istore (i := 4) (L' := [aR (some 0), aR (some p1), aI x2, aI x3, aI 0, aU]) dX9_bottom_1 (Nat.le_of_ble_eq_true rfl) rfl ?_
  refine T_iconst dX9_bottom_3 ic_0 ?_
  refine T_istore (i := 5) (L' := [aR (some 0), aR (some p1), aI x2, aI x3, aI 0, aI 0]) dX9_bottom_4 (Nat.le_of_ble_eq_true rfl) rfl ?_
  exact l_X9_bottom_L6  M p1 x2 x3 h1 _ FU 0 0 h ⟨rfl, rfl, rfl, rfl⟩
def X9_cellsOf_L5 (M : Mem) (x1 : Int32) (x2 : Int32) : Int32 × Int32 → Option ((Int32 × Int32) ⊕ (Int32))
  | (x3, x4) =>
    if (gI M 0 11) ≤ x4 then some (.inr x3)
    else bd1 (F_X9_has x1 x4) fun r_1 => if r_1 = 0 then lett (x3 + 0) fun x_3 => lett (x4 + 1) fun x_5 => some (.inl (x_3, x_5))
    else chk (¬ (gI M 0 10) = 0) (chk (inb (irm x4 (gI M 0 10)) 4 = true) (if (gI M 8 (irm x4 (gI M 0 10)).toNatClampNeg) = x2 then lett (x3 + 1) fun x_13 => lett (x4 + 1) fun x_15 => some (.inl (x_13, x_15))
    else lett (x3 + 0) fun x_9 => lett (x4 + 1) fun x_11 => some (.inl (x_9, x_11))))
def F_X9_cellsOf (M : Mem) (x1 : Int32) (x2 : Int32) : Option (Int32) :=
 loop (X9_cellsOf_L5 M x1 x2) FU (0, 0)
set_option maxRecDepth 100000 in
set_option maxHeartbeats 4000000 in
theorem s_X9_cellsOf_L5 (M : Mem) (x1 : Int32) (x2 : Int32) (x3 : Int32) (x4 : Int32) {Po : Po_} (x : (Int32 × Int32) ⊕ (Int32)) (h : X9_cellsOf_L5 M x1 x2 (x3, x4) = some x) (hI : ∀ (ix3 : Int32) (ix4 : Int32), x = .inl (ix3, ix4) → T RX9 cX9_cellsOf 5 (some .int) 0 2 0 0 false Po 5 [aR (some 0), aI x1, aI x2, aI ix3, aI ix4] [] LAYM rfm M 0 0) (hE0 : ∀ (er : Int32), x = .inr er → Po (vI er) LAYM rfm M) : T RX9 cX9_cellsOf 5 (some .int) 0 2 0 0 false Po 5 [aR (some 0), aI x1, aI x2, aI x3, aI x4] [] LAYM rfm M 0 0 := by
  unfold X9_cellsOf_L5 at h
  simp only at h
  refine T_iload dX9_cellsOf_5 rfl ?_
  refine T_aload_n dX9_cellsOf_7 rfl ?_
  refine T_getI dX9_cellsOf_8 clOK_X9 fl_X9_155 lyM_0 rfl ?_
  refine T_icmp_ge (tgt := 53) dX9_cellsOf_11 (by decide) (fun hc => ?_) (fun hc => ?_)
  · have h := it_pos hc h
    refine T_iload_n dX9_cellsOf_53 rfl ?_
    obtain rfl := sm1 h
    exact T_iret dX9_cellsOf_54 (hE0 _ rfl)
  · have h := it_neg hc h
    refine T_iload_n dX9_cellsOf_14 rfl ?_
    refine T_iload_n dX9_cellsOf_15 rfl ?_
    refine T_iload dX9_cellsOf_16 rfl ?_
    obtain ⟨r_1, hc_2, h⟩ := bd1_some h
    refine T_csi (as := [vI x1, vI x4]) dX9_cellsOf_18 cw_X9_has ml_X9_170 mt_X9_has rfl (Nat.le_of_ble_eq_true rfl) (Nat.le_of_ble_eq_true rfl) (m_X9_has M x1 x4  _ hc_2) ?_
    refine T_if_eq (tgt := 44) dX9_cellsOf_21 (by decide) (fun hc => ?_) (fun hc => ?_)
    · have h := it_pos hc h
      refine T_iconst dX9_cellsOf_44 ic_0 ?_
      refine T_iadd dX9_cellsOf_45 ?_
      obtain ⟨x_3, ex_4, h⟩ := lett_some h
      refine T_topI ex_4 ?_
      refine T_istore_n (i := 3) (L' := [aR (some 0), aI x1, aI x2, aI x_3, aI x4]) dX9_cellsOf_46 rfl (Nat.le_of_ble_eq_true rfl) rfl ?_
      obtain ⟨x_5, ex_6, h⟩ := lett_some h
      refine T_iinc (L' := [aR (some 0), aI x1, aI x2, aI x_3, aI x_5]) dX9_cellsOf_47 rfl (ic_inc ic_1 ex_6) (Nat.le_of_ble_eq_true rfl) rfl ?_
      refine T_goto (tgt := 5) dX9_cellsOf_50 (by decide) ?_
      obtain rfl := sm1 h
      exact hI _ _ rfl
    · have h := it_neg hc h
      refine T_aload_n dX9_cellsOf_24 rfl ?_
      refine T_getR dX9_cellsOf_25 clOK_X9 fl_X9_35 lyM_0 rfl rfl ?_
      refine T_iload dX9_cellsOf_28 rfl ?_
      refine T_aload_n dX9_cellsOf_30 rfl ?_
      refine T_getI dX9_cellsOf_31 clOK_X9 fl_X9_158 lyM_0 rfl ?_
      obtain ⟨hz_7, h⟩ := chk_some h
      refine T_irem dX9_cellsOf_34 hz_7 ?_
      obtain ⟨hi_8, h⟩ := chk_some h
      refine T_iald dX9_cellsOf_35 lyM_8 (inb_in hi_8) ?_
      refine T_iload_n dX9_cellsOf_36 rfl ?_
      refine T_icmp_ne (tgt := 44) dX9_cellsOf_37 (by decide) (fun hc => ?_) (fun hc => ?_)
      · have h := it_neg hc h
        refine T_iconst dX9_cellsOf_44 ic_0 ?_
        refine T_iadd dX9_cellsOf_45 ?_
        obtain ⟨x_9, ex_10, h⟩ := lett_some h
        refine T_topI ex_10 ?_
        refine T_istore_n (i := 3) (L' := [aR (some 0), aI x1, aI x2, aI x_9, aI x4]) dX9_cellsOf_46 rfl (Nat.le_of_ble_eq_true rfl) rfl ?_
        obtain ⟨x_11, ex_12, h⟩ := lett_some h
        refine T_iinc (L' := [aR (some 0), aI x1, aI x2, aI x_9, aI x_11]) dX9_cellsOf_47 rfl (ic_inc ic_1 ex_12) (Nat.le_of_ble_eq_true rfl) rfl ?_
        refine T_goto (tgt := 5) dX9_cellsOf_50 (by decide) ?_
        obtain rfl := sm1 h
        exact hI _ _ rfl
      · have h := it_pos hc h
        refine T_iconst dX9_cellsOf_40 ic_1 ?_
        refine T_goto (tgt := 45) dX9_cellsOf_41 (by decide) ?_
        refine T_iadd dX9_cellsOf_45 ?_
        obtain ⟨x_13, ex_14, h⟩ := lett_some h
        refine T_topI ex_14 ?_
        refine T_istore_n (i := 3) (L' := [aR (some 0), aI x1, aI x2, aI x_13, aI x4]) dX9_cellsOf_46 rfl (Nat.le_of_ble_eq_true rfl) rfl ?_
        obtain ⟨x_15, ex_16, h⟩ := lett_some h
        refine T_iinc (L' := [aR (some 0), aI x1, aI x2, aI x_13, aI x_15]) dX9_cellsOf_47 rfl (ic_inc ic_1 ex_16) (Nat.le_of_ble_eq_true rfl) rfl ?_
        refine T_goto (tgt := 5) dX9_cellsOf_50 (by decide) ?_
        obtain rfl := sm1 h
        exact hI _ _ rfl
set_option maxRecDepth 100000 in
set_option maxHeartbeats 4000000 in
theorem l_X9_cellsOf_L5 (M : Mem) (x1 : Int32) (x2 : Int32) {Po : Po_} (er : Int32) : ∀ (k : Nat) (x3 : Int32) (x4 : Int32), loop (X9_cellsOf_L5 M x1 x2) k (x3, x4) = some er → (Po (vI er) LAYM rfm M) → T RX9 cX9_cellsOf 5 (some .int) 0 2 0 0 false Po 5 [aR (some 0), aI x1, aI x2, aI x3, aI x4] [] LAYM rfm M 0 0 := by
  intro k
  induction k with
  | zero => intro x3 x4 h; cases h
  | succ k ih =>
    intro x3 x4 h hE
    obtain ⟨x, hx, hx1, hx2⟩ := loop_succ h
    exact s_X9_cellsOf_L5  M x1 x2  x3 x4 x hx (fun q0 q1 e => ih q0 q1 (hx1 _ e) hE) (fun q0 e => by cases hx2 _ e; exact hE)
set_option maxRecDepth 100000 in
set_option maxHeartbeats 4000000 in
theorem m_X9_cellsOf (M : Mem) (x1 : Int32) (x2 : Int32) (r : Int32) (h : F_X9_cellsOf M x1 x2 = some r) : Cal yX9_cellsOf cX9_cellsOf 5 (some .int) 0 2 0 0 false [vR (some 0), vI x1, vI x2] LAYM rfm M (eqp (vI r) LAYM rfm M) := by
  refine Cal.of (by decide +kernel) (Nat.le_of_ble_eq_true rfl) (fun h => by cases h) ?_
  unfold F_X9_cellsOf at h
  show T RX9 cX9_cellsOf 5 (some .int) 0 2 0 0 false (eqp (vI r) LAYM rfm M) 0 [aR (some 0), aI x1, aI x2, aU, aU] [] LAYM rfm M 0 0
  refine T_iconst dX9_cellsOf_0 ic_0 ?_
  refine T_istore_n (i := 3) (L' := [aR (some 0), aI x1, aI x2, aI 0, aU]) dX9_cellsOf_1 rfl (Nat.le_of_ble_eq_true rfl) rfl ?_
  refine T_iconst dX9_cellsOf_2 ic_0 ?_
  refine T_istore (i := 4) (L' := [aR (some 0), aI x1, aI x2, aI 0, aI 0]) dX9_cellsOf_3 (Nat.le_of_ble_eq_true rfl) rfl ?_
  exact l_X9_cellsOf_L5  M x1 x2  _ FU 0 0 h ⟨rfl, rfl, rfl, rfl⟩
def X9_whose_L4 (M : Mem) (x1 : Int32) : Int32 × Int32 → Option ((Int32 × Int32) ⊕ (Int32))
  | (x2, x3) =>
    if (nI 4) ≤ x3 then some (.inr x2)
    else bd1 (F_X9_cellsOf M x1 x3) fun r_1 => bd1 (F_X9_cellsOf M x1 x2) fun r_3 => if r_1 ≤ r_3 then lett (x3 + 1) fun x_5 => some (.inl (x2, x_5))
    else lett (x3 + 1) fun x_7 => some (.inl (x3, x_7))
def F_X9_whose (M : Mem) (x1 : Int32) : Option (Int32) :=
 loop (X9_whose_L4 M x1) FU (0, 1)
set_option maxRecDepth 100000 in
set_option maxHeartbeats 4000000 in
theorem s_X9_whose_L4 (M : Mem) (x1 : Int32) (x2 : Int32) (x3 : Int32) {Po : Po_} (x : (Int32 × Int32) ⊕ (Int32)) (h : X9_whose_L4 M x1 (x2, x3) = some x) (hI : ∀ (ix2 : Int32) (ix3 : Int32), x = .inl (ix2, ix3) → T RX9 cX9_whose 4 (some .int) 0 3 0 0 false Po 4 [aR (some 0), aI x1, aI ix2, aI ix3] [] LAYM rfm M 0 0) (hE0 : ∀ (er : Int32), x = .inr er → Po (vI er) LAYM rfm M) : T RX9 cX9_whose 4 (some .int) 0 3 0 0 false Po 4 [aR (some 0), aI x1, aI x2, aI x3] [] LAYM rfm M 0 0 := by
  unfold X9_whose_L4 at h
  simp only at h
  refine T_iload_n dX9_whose_4 rfl ?_
  refine T_iconst dX9_whose_5 ic_4 ?_
  refine T_icmp_ge (tgt := 36) dX9_whose_6 (by decide) (fun hc => ?_) (fun hc => ?_)
  · have h := it_pos hc h
    refine T_iload_n dX9_whose_36 rfl ?_
    obtain rfl := sm1 h
    exact T_iret dX9_whose_37 (hE0 _ rfl)
  · have h := it_neg hc h
    refine T_aload_n dX9_whose_9 rfl ?_
    refine T_iload_n dX9_whose_10 rfl ?_
    refine T_iload_n dX9_whose_11 rfl ?_
    obtain ⟨r_1, hc_2, h⟩ := bd1_some h
    refine T_cvi (as := [vI x1, vI x3]) dX9_whose_12 cw_X9_cellsOf ml_X9_196 mi_X9_cellsOf se_X9_cellsOf lyM_0 rfl (by decide) rfl (Nat.le_of_ble_eq_true rfl) (Nat.le_of_ble_eq_true rfl) (m_X9_cellsOf  M x1 x3  _ hc_2) ?_
    refine T_aload_n dX9_whose_15 rfl ?_
    refine T_iload_n dX9_whose_16 rfl ?_
    refine T_iload_n dX9_whose_17 rfl ?_
    obtain ⟨r_3, hc_4, h⟩ := bd1_some h
    refine T_cvi (as := [vI x1, vI x2]) dX9_whose_18 cw_X9_cellsOf ml_X9_196 mi_X9_cellsOf se_X9_cellsOf lyM_0 rfl (by decide) rfl (Nat.le_of_ble_eq_true rfl) (Nat.le_of_ble_eq_true rfl) (m_X9_cellsOf  M x1 x2  _ hc_4) ?_
    refine T_icmp_le (tgt := 28) dX9_whose_21 (by decide) (fun hc => ?_) (fun hc => ?_)
    · have h := it_pos hc h
      refine T_iload_n dX9_whose_28 rfl ?_
      refine T_istore_n (i := 2) (L' := [aR (some 0), aI x1, aI x2, aI x3]) dX9_whose_29 rfl (Nat.le_of_ble_eq_true rfl) rfl ?_
      obtain ⟨x_5, ex_6, h⟩ := lett_some h
      refine T_iinc (L' := [aR (some 0), aI x1, aI x2, aI x_5]) dX9_whose_30 rfl (ic_inc ic_1 ex_6) (Nat.le_of_ble_eq_true rfl) rfl ?_
      refine T_goto (tgt := 4) dX9_whose_33 (by decide) ?_
      obtain rfl := sm1 h
      exact hI _ _ rfl
    · have h := it_neg hc h
      refine T_iload_n dX9_whose_24 rfl ?_
      refine T_goto (tgt := 29) dX9_whose_25 (by decide) ?_
      refine T_istore_n (i := 2) (L' := [aR (some 0), aI x1, aI x3, aI x3]) dX9_whose_29 rfl (Nat.le_of_ble_eq_true rfl) rfl ?_
      obtain ⟨x_7, ex_8, h⟩ := lett_some h
      refine T_iinc (L' := [aR (some 0), aI x1, aI x3, aI x_7]) dX9_whose_30 rfl (ic_inc ic_1 ex_8) (Nat.le_of_ble_eq_true rfl) rfl ?_
      refine T_goto (tgt := 4) dX9_whose_33 (by decide) ?_
      obtain rfl := sm1 h
      exact hI _ _ rfl
set_option maxRecDepth 100000 in
set_option maxHeartbeats 4000000 in
theorem l_X9_whose_L4 (M : Mem) (x1 : Int32) {Po : Po_} (er : Int32) : ∀ (k : Nat) (x2 : Int32) (x3 : Int32), loop (X9_whose_L4 M x1) k (x2, x3) = some er → (Po (vI er) LAYM rfm M) → T RX9 cX9_whose 4 (some .int) 0 3 0 0 false Po 4 [aR (some 0), aI x1, aI x2, aI x3] [] LAYM rfm M 0 0 := by
  intro k
  induction k with
  | zero => intro x2 x3 h; cases h
  | succ k ih =>
    intro x2 x3 h hE
    obtain ⟨x, hx, hx1, hx2⟩ := loop_succ h
    exact s_X9_whose_L4  M x1  x2 x3 x hx (fun q0 q1 e => ih q0 q1 (hx1 _ e) hE) (fun q0 e => by cases hx2 _ e; exact hE)
set_option maxRecDepth 100000 in
set_option maxHeartbeats 4000000 in
theorem m_X9_whose (M : Mem) (x1 : Int32) (r : Int32) (h : F_X9_whose M x1 = some r) : Cal yX9_whose cX9_whose 4 (some .int) 0 3 0 0 false [vR (some 0), vI x1] LAYM rfm M (eqp (vI r) LAYM rfm M) := by
  refine Cal.of (by decide +kernel) (Nat.le_of_ble_eq_true rfl) (fun h => by cases h) ?_
  unfold F_X9_whose at h
  show T RX9 cX9_whose 4 (some .int) 0 3 0 0 false (eqp (vI r) LAYM rfm M) 0 [aR (some 0), aI x1, aU, aU] [] LAYM rfm M 0 0
  refine T_iconst dX9_whose_0 ic_0 ?_
  refine T_istore_n (i := 2) (L' := [aR (some 0), aI x1, aI 0, aU]) dX9_whose_1 rfl (Nat.le_of_ble_eq_true rfl) rfl ?_
  refine T_iconst dX9_whose_2 ic_1 ?_
  refine T_istore_n (i := 3) (L' := [aR (some 0), aI x1, aI 0, aI 1]) dX9_whose_3 rfl (Nat.le_of_ble_eq_true rfl) rfl ?_
  exact l_X9_whose_L4  M x1  _ FU 0 1 h ⟨rfl, rfl, rfl, rfl⟩
def F_X9_holeOf (M : Mem) (p1 : Nat) (x2 : Int32) (x3 : Int32) (x4 : Int32) : Option (Int32) :=
 if x4 = 0 then some x3
 else if x4 = 1 then bd1 (F_X9_sizeOf x3) fun r_7 => some r_7
 else if x4 = (nI 2) then bd1 (F_X9_volume M p1 x2 x3) fun r_5 => some r_5
 else if x4 = (nI 3) then bd1 (F_X9_bottom M p1 x2 x3) fun r_3 => some r_3
 else bd1 (F_X9_whose M x3) fun r_1 => some r_1
set_option maxRecDepth 100000 in
set_option maxHeartbeats 4000000 in
theorem m_X9_holeOf (M : Mem) (p1 : Nat) (x2 : Int32) (x3 : Int32) (x4 : Int32) (h1 : isAM p1 = true) (r : Int32) (h : F_X9_holeOf M p1 x2 x3 x4 = some r) : Cal yX9_holeOf cX9_holeOf 5 (some .int) 0 4 0 0 false [vR (some 0), vR (some p1), vI x2, vI x3, vI x4] LAYM rfm M (eqp (vI r) LAYM rfm M) := by
  refine Cal.of (by decide +kernel) (Nat.le_of_ble_eq_true rfl) (fun h => by cases h) ?_
  unfold F_X9_holeOf at h
  show T RX9 cX9_holeOf 5 (some .int) 0 4 0 0 false (eqp (vI r) LAYM rfm M) 0 [aR (some 0), aR (some p1), aI x2, aI x3, aI x4] [] LAYM rfm M 0 0
  refine T_iload dX9_holeOf_0 rfl ?_
  refine T_if_ne (tgt := 9) dX9_holeOf_2 (by decide) (fun hc => ?_) (fun hc => ?_)
  · have h := it_neg hc h
    refine T_iload dX9_holeOf_9 rfl ?_
    refine T_iconst dX9_holeOf_11 ic_1 ?_
    refine T_icmp_ne (tgt := 22) dX9_holeOf_12 (by decide) (fun hc => ?_) (fun hc => ?_)
    · have h := it_neg hc h
      refine T_iload dX9_holeOf_22 rfl ?_
      refine T_iconst dX9_holeOf_24 ic_2 ?_
      refine T_icmp_ne (tgt := 38) dX9_holeOf_25 (by decide) (fun hc => ?_) (fun hc => ?_)
      · have h := it_neg hc h
        refine T_iload dX9_holeOf_38 rfl ?_
        refine T_iconst dX9_holeOf_40 ic_3 ?_
        refine T_icmp_ne (tgt := 54) dX9_holeOf_41 (by decide) (fun hc => ?_) (fun hc => ?_)
        · have h := it_neg hc h
          refine T_aload_n dX9_holeOf_54 rfl ?_
          refine T_iload_n dX9_holeOf_55 rfl ?_
          obtain ⟨r_1, hc_2, h⟩ := bd1_some h
          refine T_cvi (as := [vI x3]) dX9_holeOf_56 cw_X9_whose ml_X9_209 mi_X9_whose se_X9_whose lyM_0 rfl (by decide) rfl (Nat.le_of_ble_eq_true rfl) (Nat.le_of_ble_eq_true rfl) (m_X9_whose  M x3  _ hc_2) ?_
          obtain rfl := sm1 h
          exact T_iret dX9_holeOf_59 ⟨rfl, rfl, rfl, rfl⟩
        · have h := it_pos hc h
          refine T_aload_n dX9_holeOf_44 rfl ?_
          refine T_aload_n dX9_holeOf_45 rfl ?_
          refine T_iload_n dX9_holeOf_46 rfl ?_
          refine T_iload_n dX9_holeOf_47 rfl ?_
          obtain ⟨r_3, hc_4, h⟩ := bd1_some h
          refine T_cvi (as := [vR (some p1), vI x2, vI x3]) dX9_holeOf_48 cw_X9_bottom ml_X9_206 mi_X9_bottom se_X9_bottom lyM_0 rfl (by decide) rfl (Nat.le_of_ble_eq_true rfl) (Nat.le_of_ble_eq_true rfl) (m_X9_bottom  M p1 x2 x3 h1 _ hc_4) ?_
          refine T_goto (tgt := 59) dX9_holeOf_51 (by decide) ?_
          obtain rfl := sm1 h
          exact T_iret dX9_holeOf_59 ⟨rfl, rfl, rfl, rfl⟩
      · have h := it_pos hc h
        refine T_aload_n dX9_holeOf_28 rfl ?_
        refine T_aload_n dX9_holeOf_29 rfl ?_
        refine T_iload_n dX9_holeOf_30 rfl ?_
        refine T_iload_n dX9_holeOf_31 rfl ?_
        obtain ⟨r_5, hc_6, h⟩ := bd1_some h
        refine T_cvi (as := [vR (some p1), vI x2, vI x3]) dX9_holeOf_32 cw_X9_volume ml_X9_202 mi_X9_volume se_X9_volume lyM_0 rfl (by decide) rfl (Nat.le_of_ble_eq_true rfl) (Nat.le_of_ble_eq_true rfl) (m_X9_volume  M p1 x2 x3 h1 _ hc_6) ?_
        refine T_goto (tgt := 59) dX9_holeOf_35 (by decide) ?_
        obtain rfl := sm1 h
        exact T_iret dX9_holeOf_59 ⟨rfl, rfl, rfl, rfl⟩
    · have h := it_pos hc h
      refine T_iload_n dX9_holeOf_15 rfl ?_
      obtain ⟨r_7, hc_8, h⟩ := bd1_some h
      refine T_csi (as := [vI x3]) dX9_holeOf_16 cw_X9_sizeOf ml_X9_199 mt_X9_sizeOf rfl (Nat.le_of_ble_eq_true rfl) (Nat.le_of_ble_eq_true rfl) (m_X9_sizeOf M x3  _ hc_8) ?_
      refine T_goto (tgt := 59) dX9_holeOf_19 (by decide) ?_
      obtain rfl := sm1 h
      exact T_iret dX9_holeOf_59 ⟨rfl, rfl, rfl, rfl⟩
  · have h := it_pos hc h
    refine T_iload_n dX9_holeOf_5 rfl ?_
    refine T_goto (tgt := 59) dX9_holeOf_6 (by decide) ?_
    obtain rfl := sm1 h
    exact T_iret dX9_holeOf_59 ⟨rfl, rfl, rfl, rfl⟩
def X9_cellOf_L40 (M : Mem) (x1 : Int32) : Int32 × Int32 → Option ((Int32 × Int32) ⊕ (Int32 × Mem))
  | (x3, x4) =>
    if (gI M 0 23) ≤ x4 then some (.inr (x3, M))
    else chk (inb x4 8 = true) (bd1 (F_X9_has (gI M 11 x4.toNatClampNeg) x1) fun r_4 => if r_4 = 0 then lett (x4 + 1) fun x_6 => some (.inl (x3, x_6))
    else lett (x4 + 1) fun x_8 => some (.inl (x4, x_8)))
def F_X9_cellOf (M : Mem) (x1 : Int32) (x2 : Int32) : Option (Int32 × Mem) :=
 if (nI 2) ≤ x2 then bd1 (F_X9_layHoles M) fun M_1 => loop (X9_cellOf_L40 M_1 x1) FU ((-9), 0)
 else if x2 = 0 then chk (inb x1 16 = true) (some (gI M 7 x1.toNatClampNeg, M))
 else chk (¬ (gI M 0 10) = 0) (chk (inb (irm x1 (gI M 0 10)) 4 = true) (some (gI M 8 (irm x1 (gI M 0 10)).toNatClampNeg, M)))
set_option maxRecDepth 100000 in
set_option maxHeartbeats 4000000 in
theorem s_X9_cellOf_L40 (M : Mem) (x1 : Int32) (x3 : Int32) (x4 : Int32) {Po : Po_} (x : (Int32 × Int32) ⊕ (Int32 × Mem)) (h : X9_cellOf_L40 M x1 (x3, x4) = some x) (hI : ∀ (ix3 : Int32) (ix4 : Int32), x = .inl (ix3, ix4) → T RX9 cX9_cellOf 5 (some .int) 0 5 0 0 false Po 40 [aR (some 0), aI x1, aU, aI ix3, aI ix4] [] LAYM rfm M 0 0) (hE0 : ∀ (er : Int32) (eM : Mem), x = .inr (er, eM) → Po (vI er) LAYM rfm eM) : T RX9 cX9_cellOf 5 (some .int) 0 5 0 0 false Po 40 [aR (some 0), aI x1, aU, aI x3, aI x4] [] LAYM rfm M 0 0 := by
  unfold X9_cellOf_L40 at h
  simp only at h
  refine T_iload dX9_cellOf_40 rfl ?_
  refine T_aload_n dX9_cellOf_42 rfl ?_
  refine T_getI dX9_cellOf_43 clOK_X9 fl_X9_187 lyM_0 rfl ?_
  refine T_icmp_ge (tgt := 76) dX9_cellOf_46 (by decide) (fun hc => ?_) (fun hc => ?_)
  · have h := it_pos hc h
    refine T_iload_n dX9_cellOf_76 rfl ?_
    obtain rfl := sm1 h
    exact T_iret dX9_cellOf_77 (hE0 _ _ rfl)
  · have h := it_neg hc h
    refine T_aload_n dX9_cellOf_49 rfl ?_
    refine T_getR dX9_cellOf_50 clOK_X9 fl_X9_44 lyM_0 rfl rfl ?_
    refine T_iload dX9_cellOf_53 rfl ?_
    obtain ⟨hi_3, h⟩ := chk_some h
    refine T_iald dX9_cellOf_55 lyM_11 (inb_in hi_3) ?_
    refine T_iload_n dX9_cellOf_56 rfl ?_
    obtain ⟨r_4, hc_5, h⟩ := bd1_some h
    refine T_csi (as := [vI (gI M 11 x4.toNatClampNeg), vI x1]) dX9_cellOf_57 cw_X9_has ml_X9_170 mt_X9_has rfl (Nat.le_of_ble_eq_true rfl) (Nat.le_of_ble_eq_true rfl) (m_X9_has M (gI M 11 x4.toNatClampNeg) x1  _ hc_5) ?_
    refine T_if_eq (tgt := 68) dX9_cellOf_60 (by decide) (fun hc => ?_) (fun hc => ?_)
    · have h := it_pos hc h
      refine T_iload_n dX9_cellOf_68 rfl ?_
      refine T_istore_n (i := 3) (L' := [aR (some 0), aI x1, aU, aI x3, aI x4]) dX9_cellOf_69 rfl (Nat.le_of_ble_eq_true rfl) rfl ?_
      obtain ⟨x_6, ex_7, h⟩ := lett_some h
      refine T_iinc (L' := [aR (some 0), aI x1, aU, aI x3, aI x_6]) dX9_cellOf_70 rfl (ic_inc ic_1 ex_7) (Nat.le_of_ble_eq_true rfl) rfl ?_
      refine T_goto (tgt := 40) dX9_cellOf_73 (by decide) ?_
      obtain rfl := sm1 h
      exact hI _ _ rfl
    · have h := it_neg hc h
      refine T_iload dX9_cellOf_63 rfl ?_
      refine T_goto (tgt := 69) dX9_cellOf_65 (by decide) ?_
      refine T_istore_n (i := 3) (L' := [aR (some 0), aI x1, aU, aI x4, aI x4]) dX9_cellOf_69 rfl (Nat.le_of_ble_eq_true rfl) rfl ?_
      obtain ⟨x_8, ex_9, h⟩ := lett_some h
      refine T_iinc (L' := [aR (some 0), aI x1, aU, aI x4, aI x_8]) dX9_cellOf_70 rfl (ic_inc ic_1 ex_9) (Nat.le_of_ble_eq_true rfl) rfl ?_
      refine T_goto (tgt := 40) dX9_cellOf_73 (by decide) ?_
      obtain rfl := sm1 h
      exact hI _ _ rfl
set_option maxRecDepth 100000 in
set_option maxHeartbeats 4000000 in
theorem l_X9_cellOf_L40 (M : Mem) (x1 : Int32) {Po : Po_} (er : Int32) (eM : Mem) : ∀ (k : Nat) (x3 : Int32) (x4 : Int32), loop (X9_cellOf_L40 M x1) k (x3, x4) = some (er, eM) → (Po (vI er) LAYM rfm eM) → T RX9 cX9_cellOf 5 (some .int) 0 5 0 0 false Po 40 [aR (some 0), aI x1, aU, aI x3, aI x4] [] LAYM rfm M 0 0 := by
  intro k
  induction k with
  | zero => intro x3 x4 h; cases h
  | succ k ih =>
    intro x3 x4 h hE
    obtain ⟨x, hx, hx1, hx2⟩ := loop_succ h
    exact s_X9_cellOf_L40  M x1  x3 x4 x hx (fun q0 q1 e => ih q0 q1 (hx1 _ e) hE) (fun q0 q1 e => by cases hx2 _ e; exact hE)
set_option maxRecDepth 100000 in
set_option maxHeartbeats 4000000 in
theorem m_X9_cellOf (M : Mem) (x1 : Int32) (x2 : Int32) (r : Int32) (M' : Mem) (h : F_X9_cellOf M x1 x2 = some (r, M')) : Cal yX9_cellOf cX9_cellOf 5 (some .int) 0 5 0 0 false [vR (some 0), vI x1, vI x2] LAYM rfm M (eqp (vI r) LAYM rfm M') := by
  refine Cal.of (by decide +kernel) (Nat.le_of_ble_eq_true rfl) (fun h => by cases h) ?_
  unfold F_X9_cellOf at h
  show T RX9 cX9_cellOf 5 (some .int) 0 5 0 0 false (eqp (vI r) LAYM rfm M') 0 [aR (some 0), aI x1, aI x2, aU, aU] [] LAYM rfm M 0 0
  refine T_iload_n dX9_cellOf_0 rfl ?_
  refine T_iconst dX9_cellOf_1 ic_2 ?_
  refine T_icmp_ge (tgt := 30) dX9_cellOf_2 (by decide) (fun hc => ?_) (fun hc => ?_)
  · have h := it_pos hc h
    refine T_aload_n dX9_cellOf_30 rfl ?_
    obtain ⟨M_1, hc_2, h⟩ := bd1_some h
    refine T_cvv (as := []) dX9_cellOf_31 cw_X9_layHoles ml_X9_190 mi_X9_layHoles se_X9_layHoles lyM_0 rfl (by decide) rfl (Nat.le_of_ble_eq_true rfl) (Nat.le_of_ble_eq_true rfl) (m_X9_layHoles  M  _ hc_2) ?_
    refine T_bipush dX9_cellOf_34 bp_m9 ?_
    refine T_istore_n (i := 3) (L' := [aR (some 0), aI x1, aI x2, aI (-9), aU]) dX9_cellOf_36 rfl (Nat.le_of_ble_eq_true rfl) rfl ?_
    refine T_iconst dX9_cellOf_37 ic_0 ?_
    refine T_istore (i := 4) (L' := [aR (some 0), aI x1, aI x2, aI (-9), aI 0]) dX9_cellOf_38 (Nat.le_of_ble_eq_true rfl) rfl ?_
    refine T_mask [true, true, false, true, true] rfl ?_
    exact l_X9_cellOf_L40  M_1 x1  _ _ FU (-9) 0 h ⟨rfl, rfl, rfl, rfl⟩
  · have h := it_neg hc h
    refine T_iload_n dX9_cellOf_5 rfl ?_
    refine T_if_ne (tgt := 18) dX9_cellOf_6 (by decide) (fun hc => ?_) (fun hc => ?_)
    · have h := it_neg hc h
      refine T_aload_n dX9_cellOf_18 rfl ?_
      refine T_getR dX9_cellOf_19 clOK_X9 fl_X9_35 lyM_0 rfl rfl ?_
      refine T_iload_n dX9_cellOf_22 rfl ?_
      refine T_aload_n dX9_cellOf_23 rfl ?_
      refine T_getI dX9_cellOf_24 clOK_X9 fl_X9_158 lyM_0 rfl ?_
      obtain ⟨hz_10, h⟩ := chk_some h
      refine T_irem dX9_cellOf_27 hz_10 ?_
      obtain ⟨hi_11, h⟩ := chk_some h
      refine T_iald dX9_cellOf_28 lyM_8 (inb_in hi_11) ?_
      obtain ⟨rfl, rfl⟩ := sm2 h
      exact T_iret dX9_cellOf_29 ⟨rfl, rfl, rfl, rfl⟩
    · have h := it_pos hc h
      refine T_aload_n dX9_cellOf_9 rfl ?_
      refine T_getR dX9_cellOf_10 clOK_X9 fl_X9_32 lyM_0 rfl rfl ?_
      refine T_iload_n dX9_cellOf_13 rfl ?_
      obtain ⟨hi_12, h⟩ := chk_some h
      refine T_iald dX9_cellOf_14 lyM_7 (inb_in hi_12) ?_
      refine T_goto (tgt := 29) dX9_cellOf_15 (by decide) ?_
      obtain ⟨rfl, rfl⟩ := sm2 h
      exact T_iret dX9_cellOf_29 ⟨rfl, rfl, rfl, rfl⟩
def F_X9_cell (M : Mem) (x1 : Int32) (x2 : Int32) : Option (Int32 × Mem) :=
 bd1 (F_X9_isCell M x1) fun r_1 => if r_1 = 0 then some ((-1), M)
 else bd1 (F_X9_in x2 0 (nI 2)) fun r_3 => if r_3 = 0 then some ((-1), M)
 else bd2 (F_X9_cellOf M x1 x2) fun r_5 M_6 => bd2 (F_X9_ask M_6 r_5 1) fun r_8 M_9 => some (r_8, M_9)
set_option maxRecDepth 100000 in
set_option maxHeartbeats 4000000 in
theorem m_X9_cell (M : Mem) (x1 : Int32) (x2 : Int32) (r : Int32) (M' : Mem) (h : F_X9_cell M x1 x2 = some (r, M')) : Cal yX9_cell cX9_cell 3 (some .int) 0 6 0 0 false [vR (some 0), vI x1, vI x2] LAYM rfm M (eqp (vI r) LAYM rfm M') := by
  refine Cal.of (by decide +kernel) (Nat.le_of_ble_eq_true rfl) (fun h => by cases h) ?_
  unfold F_X9_cell at h
  show T RX9 cX9_cell 3 (some .int) 0 6 0 0 false (eqp (vI r) LAYM rfm M') 0 [aR (some 0), aI x1, aI x2] [] LAYM rfm M 0 0
  refine T_aload_n dX9_cell_0 rfl ?_
  refine T_iload_n dX9_cell_1 rfl ?_
  obtain ⟨r_1, hc_2, h⟩ := bd1_some h
  refine T_cvi (as := [vI x1]) dX9_cell_2 cw_X9_isCell ml_X9_212 mi_X9_isCell se_X9_isCell lyM_0 rfl (by decide) rfl (Nat.le_of_ble_eq_true rfl) (Nat.le_of_ble_eq_true rfl) (m_X9_isCell  M x1  _ hc_2) ?_
  refine T_if_eq (tgt := 31) dX9_cell_5 (by decide) (fun hc => ?_) (fun hc => ?_)
  · have h := it_pos hc h
    refine T_iconst dX9_cell_31 ic_m1 ?_
    obtain ⟨rfl, rfl⟩ := sm2 h
    exact T_iret dX9_cell_32 ⟨rfl, rfl, rfl, rfl⟩
  · have h := it_neg hc h
    refine T_iload_n dX9_cell_8 rfl ?_
    refine T_iconst dX9_cell_9 ic_0 ?_
    refine T_iconst dX9_cell_10 ic_2 ?_
    obtain ⟨r_3, hc_4, h⟩ := bd1_some h
    refine T_csi (as := [vI x2, vI 0, vI (nI 2)]) dX9_cell_11 cw_X9_in ml_X9_79 mt_X9_in rfl (Nat.le_of_ble_eq_true rfl) (Nat.le_of_ble_eq_true rfl) (m_X9_in M x2 0 (nI 2)  _ hc_4) ?_
    refine T_if_eq (tgt := 31) dX9_cell_14 (by decide) (fun hc => ?_) (fun hc => ?_)
    · have h := it_pos hc h
      refine T_iconst dX9_cell_31 ic_m1 ?_
      obtain ⟨rfl, rfl⟩ := sm2 h
      exact T_iret dX9_cell_32 ⟨rfl, rfl, rfl, rfl⟩
    · have h := it_neg hc h
      refine T_aload_n dX9_cell_17 rfl ?_
      refine T_aload_n dX9_cell_18 rfl ?_
      refine T_iload_n dX9_cell_19 rfl ?_
      refine T_iload_n dX9_cell_20 rfl ?_
      obtain ⟨r_5, M_6, hc_7, h⟩ := bd2_some h
      refine T_cvi (as := [vI x1, vI x2]) dX9_cell_21 cw_X9_cellOf ml_X9_215 mi_X9_cellOf se_X9_cellOf lyM_0 rfl (by decide) rfl (Nat.le_of_ble_eq_true rfl) (Nat.le_of_ble_eq_true rfl) (m_X9_cellOf  M x1 x2  _ _ hc_7) ?_
      refine T_iconst dX9_cell_24 ic_1 ?_
      obtain ⟨r_8, M_9, hc_10, h⟩ := bd2_some h
      refine T_cvi (as := [vI r_5, vI 1]) dX9_cell_25 cw_X9_ask ml_X9_105 mi_X9_ask se_X9_ask lyM_0 rfl (by decide) rfl (Nat.le_of_ble_eq_true rfl) (Nat.le_of_ble_eq_true rfl) (m_X9_ask  M_6 r_5 1  _ _ hc_10) ?_
      refine T_goto (tgt := 32) dX9_cell_28 (by decide) ?_
      obtain ⟨rfl, rfl⟩ := sm2 h
      exact T_iret dX9_cell_32 ⟨rfl, rfl, rfl, rfl⟩
def F_X9_law (M : Mem) (x1 : Int32) : Option (Int32) :=
 bd1 (F_X9_isLaw M x1) fun r_1 => if r_1 = 0 then some (-1)
 else chk (inb x1 6 = true) (some (gI M 9 x1.toNatClampNeg))
set_option maxRecDepth 100000 in
set_option maxHeartbeats 4000000 in
theorem m_X9_law (M : Mem) (x1 : Int32) (r : Int32) (h : F_X9_law M x1 = some r) : Cal yX9_law cX9_law 2 (some .int) 0 3 0 0 false [vR (some 0), vI x1] LAYM rfm M (eqp (vI r) LAYM rfm M) := by
  refine Cal.of (by decide +kernel) (Nat.le_of_ble_eq_true rfl) (fun h => by cases h) ?_
  unfold F_X9_law at h
  show T RX9 cX9_law 2 (some .int) 0 3 0 0 false (eqp (vI r) LAYM rfm M) 0 [aR (some 0), aI x1] [] LAYM rfm M 0 0
  refine T_aload_n dX9_law_0 rfl ?_
  refine T_iload_n dX9_law_1 rfl ?_
  obtain ⟨r_1, hc_2, h⟩ := bd1_some h
  refine T_cvi (as := [vI x1]) dX9_law_2 cw_X9_isLaw ml_X9_218 mi_X9_isLaw se_X9_isLaw lyM_0 rfl (by decide) rfl (Nat.le_of_ble_eq_true rfl) (Nat.le_of_ble_eq_true rfl) (m_X9_isLaw  M x1  _ hc_2) ?_
  refine T_if_eq (tgt := 17) dX9_law_5 (by decide) (fun hc => ?_) (fun hc => ?_)
  · have h := it_pos hc h
    refine T_iconst dX9_law_17 ic_m1 ?_
    obtain rfl := sm1 h
    exact T_iret dX9_law_18 ⟨rfl, rfl, rfl, rfl⟩
  · have h := it_neg hc h
    refine T_aload_n dX9_law_8 rfl ?_
    refine T_getR dX9_law_9 clOK_X9 fl_X9_38 lyM_0 rfl rfl ?_
    refine T_iload_n dX9_law_12 rfl ?_
    obtain ⟨hi_3, h⟩ := chk_some h
    refine T_iald dX9_law_13 lyM_9 (inb_in hi_3) ?_
    refine T_goto (tgt := 18) dX9_law_14 (by decide) ?_
    obtain rfl := sm1 h
    exact T_iret dX9_law_18 ⟨rfl, rfl, rfl, rfl⟩
def X9_pushed_J39 (x1 : Int32) (x3 : Int32) (x4 : Int32) (s0 : Int32) : Option ((Int32 × Int32 × Int32) ⊕ (Int32 × Int32)) :=
 bd1 (F_X9_has x1 x4) fun r_3 => if r_3 = 0 then lett (x4 + 1) fun x_5 => some (.inl (s0, x3, x_5))
 else if x3 ≤ (x4 / (nI 4)) then lett (x4 + 1) fun x_7 => some (.inl (s0, x3, x_7))
 else lett (x4 / (nI 4)) fun x_9 => lett (x4 + 1) fun x_11 => some (.inl (s0, x_9, x_11))
def X9_pushed_J38 (x1 : Int32) (x2 : Int32) (x3 : Int32) (x4 : Int32) : Option ((Int32 × Int32 × Int32) ⊕ (Int32 × Int32)) :=
 X9_pushed_J39 x1 x3 x4 x2
def X9_pushed_L7 (x1 : Int32) : Int32 × Int32 × Int32 → Option ((Int32 × Int32 × Int32) ⊕ (Int32 × Int32))
  | (x2, x3, x4) =>
    if (nI 16) ≤ x4 then some (.inr (x2, x3))
    else bd1 (F_X9_has x1 x4) fun r_1 => if r_1 = 0 then X9_pushed_J38 x1 x2 x3 x4
    else if x2 ≤ (irm x4 (nI 4)) then X9_pushed_J38 x1 x2 x3 x4
    else X9_pushed_J39 x1 x3 x4 (irm x4 (nI 4))
def X9_pushed_L78 (x1 : Int32) (x2 : Int32) (x3 : Int32) : Int32 × Int32 → Option ((Int32 × Int32) ⊕ (Int32))
  | (x4, x5) =>
    if (nI 16) ≤ x5 then some (.inr x4)
    else bd1 (F_X9_has x1 x5) fun r_15 => if r_15 = 0 then lett (x4 ||| 0) fun x_17 => lett (x5 + 1) fun x_19 => some (.inl (x_17, x_19))
    else lett (x4 ||| (ish 1 ((x5 - x2) - ((nI 4) * x3)))) fun x_21 => lett (x5 + 1) fun x_23 => some (.inl (x_21, x_23))
def F_X9_pushed (x1 : Int32) : Option (Int32) :=
 bd2 (loop (X9_pushed_L7 x1) FU ((nI 4), (nI 4), 0)) fun x_13 x_14 => loop (X9_pushed_L78 x1 x_13 x_14) FU (0, 0)
set_option maxRecDepth 100000 in
set_option maxHeartbeats 4000000 in
theorem j_X9_pushed_J39 (M : Mem) (x1 : Int32) (x3 : Int32) (x4 : Int32) (s0 : Int32) {Po : Po_} (x : (Int32 × Int32 × Int32) ⊕ (Int32 × Int32)) (h : X9_pushed_J39 x1 x3 x4 s0 = some x) (hI : ∀ (ix2 : Int32) (ix3 : Int32) (ix4 : Int32), x = .inl (ix2, ix3, ix4) → T RX9 cX9_pushed 6 (some .int) 0 2 0 0 false Po 7 [aU, aI x1, aI ix2, aI ix3, aI ix4, aU] [] LAYM rfm M 0 0) (hE0 : ∀ (e2 : Int32) (e3 : Int32), x = .inr (e2, e3) → T RX9 cX9_pushed 6 (some .int) 0 2 0 0 false Po 72 [aU, aI x1, aI e2, aI e3, aU, aU] [] LAYM rfm M 0 0) : T RX9 cX9_pushed 6 (some .int) 0 2 0 0 false Po 39 [aU, aI x1, aU, aI x3, aI x4, aU] [vI s0] LAYM rfm M 0 0 := by
  unfold X9_pushed_J39 at h
  refine T_istore_n (i := 2) (L' := [aU, aI x1, aI s0, aI x3, aI x4, aU]) dX9_pushed_39 rfl (Nat.le_of_ble_eq_true rfl) rfl ?_
  refine T_iload_n dX9_pushed_40 rfl ?_
  refine T_iload dX9_pushed_41 rfl ?_
  obtain ⟨r_3, hc_4, h⟩ := bd1_some h
  refine T_csi (as := [vI x1, vI x4]) dX9_pushed_43 cw_X9_has ml_X9_170 mt_X9_has rfl (Nat.le_of_ble_eq_true rfl) (Nat.le_of_ble_eq_true rfl) (m_X9_has M x1 x4  _ hc_4) ?_
  refine T_if_eq (tgt := 64) dX9_pushed_46 (by decide) (fun hc => ?_) (fun hc => ?_)
  · have h := it_pos hc h
    refine T_iload_n dX9_pushed_64 rfl ?_
    refine T_istore_n (i := 3) (L' := [aU, aI x1, aI s0, aI x3, aI x4, aU]) dX9_pushed_65 rfl (Nat.le_of_ble_eq_true rfl) rfl ?_
    obtain ⟨x_5, ex_6, h⟩ := lett_some h
    refine T_iinc (L' := [aU, aI x1, aI s0, aI x3, aI x_5, aU]) dX9_pushed_66 rfl (ic_inc ic_1 ex_6) (Nat.le_of_ble_eq_true rfl) rfl ?_
    refine T_goto (tgt := 7) dX9_pushed_69 (by decide) ?_
    obtain rfl := sm1 h
    exact hI _ _ _ rfl
  · have h := it_neg hc h
    refine T_iload dX9_pushed_49 rfl ?_
    refine T_iconst dX9_pushed_51 ic_4 ?_
    refine T_idiv dX9_pushed_52 (by decide) ?_
    refine T_iload_n dX9_pushed_53 rfl ?_
    refine T_icmp_ge (tgt := 64) dX9_pushed_54 (by decide) (fun hc => ?_) (fun hc => ?_)
    · have h := it_pos hc h
      refine T_iload_n dX9_pushed_64 rfl ?_
      refine T_istore_n (i := 3) (L' := [aU, aI x1, aI s0, aI x3, aI x4, aU]) dX9_pushed_65 rfl (Nat.le_of_ble_eq_true rfl) rfl ?_
      obtain ⟨x_7, ex_8, h⟩ := lett_some h
      refine T_iinc (L' := [aU, aI x1, aI s0, aI x3, aI x_7, aU]) dX9_pushed_66 rfl (ic_inc ic_1 ex_8) (Nat.le_of_ble_eq_true rfl) rfl ?_
      refine T_goto (tgt := 7) dX9_pushed_69 (by decide) ?_
      obtain rfl := sm1 h
      exact hI _ _ _ rfl
    · have h := it_neg hc h
      refine T_iload dX9_pushed_57 rfl ?_
      refine T_iconst dX9_pushed_59 ic_4 ?_
      refine T_idiv dX9_pushed_60 (by decide) ?_
      refine T_goto (tgt := 65) dX9_pushed_61 (by decide) ?_
      obtain ⟨x_9, ex_10, h⟩ := lett_some h
      refine T_topI ex_10 ?_
      refine T_istore_n (i := 3) (L' := [aU, aI x1, aI s0, aI x_9, aI x4, aU]) dX9_pushed_65 rfl (Nat.le_of_ble_eq_true rfl) rfl ?_
      obtain ⟨x_11, ex_12, h⟩ := lett_some h
      refine T_iinc (L' := [aU, aI x1, aI s0, aI x_9, aI x_11, aU]) dX9_pushed_66 rfl (ic_inc ic_1 ex_12) (Nat.le_of_ble_eq_true rfl) rfl ?_
      refine T_goto (tgt := 7) dX9_pushed_69 (by decide) ?_
      obtain rfl := sm1 h
      exact hI _ _ _ rfl
set_option maxRecDepth 100000 in
set_option maxHeartbeats 4000000 in
theorem j_X9_pushed_J38 (M : Mem) (x1 : Int32) (x2 : Int32) (x3 : Int32) (x4 : Int32) {Po : Po_} (x : (Int32 × Int32 × Int32) ⊕ (Int32 × Int32)) (h : X9_pushed_J38 x1 x2 x3 x4 = some x) (hI : ∀ (ix2 : Int32) (ix3 : Int32) (ix4 : Int32), x = .inl (ix2, ix3, ix4) → T RX9 cX9_pushed 6 (some .int) 0 2 0 0 false Po 7 [aU, aI x1, aI ix2, aI ix3, aI ix4, aU] [] LAYM rfm M 0 0) (hE0 : ∀ (e2 : Int32) (e3 : Int32), x = .inr (e2, e3) → T RX9 cX9_pushed 6 (some .int) 0 2 0 0 false Po 72 [aU, aI x1, aI e2, aI e3, aU, aU] [] LAYM rfm M 0 0) : T RX9 cX9_pushed 6 (some .int) 0 2 0 0 false Po 38 [aU, aI x1, aI x2, aI x3, aI x4, aU] [] LAYM rfm M 0 0 := by
  unfold X9_pushed_J38 at h
  refine T_iload_n dX9_pushed_38 rfl ?_
  refine T_mask [true, true, false, true, true, true] rfl ?_
  exact j_X9_pushed_J39  M x1 x3 x4 x2  _ h hI hE0
set_option maxRecDepth 100000 in
set_option maxHeartbeats 4000000 in
theorem s_X9_pushed_L7 (M : Mem) (x1 : Int32) (x2 : Int32) (x3 : Int32) (x4 : Int32) {Po : Po_} (x : (Int32 × Int32 × Int32) ⊕ (Int32 × Int32)) (h : X9_pushed_L7 x1 (x2, x3, x4) = some x) (hI : ∀ (ix2 : Int32) (ix3 : Int32) (ix4 : Int32), x = .inl (ix2, ix3, ix4) → T RX9 cX9_pushed 6 (some .int) 0 2 0 0 false Po 7 [aU, aI x1, aI ix2, aI ix3, aI ix4, aU] [] LAYM rfm M 0 0) (hE0 : ∀ (e2 : Int32) (e3 : Int32), x = .inr (e2, e3) → T RX9 cX9_pushed 6 (some .int) 0 2 0 0 false Po 72 [aU, aI x1, aI e2, aI e3, aU, aU] [] LAYM rfm M 0 0) : T RX9 cX9_pushed 6 (some .int) 0 2 0 0 false Po 7 [aU, aI x1, aI x2, aI x3, aI x4, aU] [] LAYM rfm M 0 0 := by
  unfold X9_pushed_L7 at h
  simp only at h
  refine T_iload dX9_pushed_7 rfl ?_
  refine T_bipush dX9_pushed_9 bp_16 ?_
  refine T_icmp_ge (tgt := 72) dX9_pushed_11 (by decide) (fun hc => ?_) (fun hc => ?_)
  · have h := it_pos hc h
    obtain rfl := sm1 h
    refine T_mask [true, true, true, true, false, true] rfl ?_
    exact hE0 _ _ rfl
  · have h := it_neg hc h
    refine T_iload_n dX9_pushed_14 rfl ?_
    refine T_iload dX9_pushed_15 rfl ?_
    obtain ⟨r_1, hc_2, h⟩ := bd1_some h
    refine T_csi (as := [vI x1, vI x4]) dX9_pushed_17 cw_X9_has ml_X9_170 mt_X9_has rfl (Nat.le_of_ble_eq_true rfl) (Nat.le_of_ble_eq_true rfl) (m_X9_has M x1 x4  _ hc_2) ?_
    refine T_if_eq (tgt := 38) dX9_pushed_20 (by decide) (fun hc => ?_) (fun hc => ?_)
    · have h := it_pos hc h
      exact j_X9_pushed_J38  M x1 x2 x3 x4  _ h hI hE0
    · have h := it_neg hc h
      refine T_iload dX9_pushed_23 rfl ?_
      refine T_iconst dX9_pushed_25 ic_4 ?_
      refine T_irem dX9_pushed_26 (by decide) ?_
      refine T_iload_n dX9_pushed_27 rfl ?_
      refine T_icmp_ge (tgt := 38) dX9_pushed_28 (by decide) (fun hc => ?_) (fun hc => ?_)
      · have h := it_pos hc h
        exact j_X9_pushed_J38  M x1 x2 x3 x4  _ h hI hE0
      · have h := it_neg hc h
        refine T_iload dX9_pushed_31 rfl ?_
        refine T_iconst dX9_pushed_33 ic_4 ?_
        refine T_irem dX9_pushed_34 (by decide) ?_
        refine T_goto (tgt := 39) dX9_pushed_35 (by decide) ?_
        refine T_mask [true, true, false, true, true, true] rfl ?_
        exact j_X9_pushed_J39  M x1 x3 x4 (irm x4 (nI 4))  _ h hI hE0
set_option maxRecDepth 100000 in
set_option maxHeartbeats 4000000 in
theorem l_X9_pushed_L7 (M : Mem) (x1 : Int32) {Po : Po_} (e2 : Int32) (e3 : Int32) : ∀ (k : Nat) (x2 : Int32) (x3 : Int32) (x4 : Int32), loop (X9_pushed_L7 x1) k (x2, x3, x4) = some (e2, e3) → (T RX9 cX9_pushed 6 (some .int) 0 2 0 0 false Po 72 [aU, aI x1, aI e2, aI e3, aU, aU] [] LAYM rfm M 0 0) → T RX9 cX9_pushed 6 (some .int) 0 2 0 0 false Po 7 [aU, aI x1, aI x2, aI x3, aI x4, aU] [] LAYM rfm M 0 0 := by
  intro k
  induction k with
  | zero => intro x2 x3 x4 h; cases h
  | succ k ih =>
    intro x2 x3 x4 h hE
    obtain ⟨x, hx, hx1, hx2⟩ := loop_succ h
    exact s_X9_pushed_L7  M x1  x2 x3 x4 x hx (fun q0 q1 q2 e => ih q0 q1 q2 (hx1 _ e) hE) (fun q0 q1 e => by cases hx2 _ e; exact hE)
set_option maxRecDepth 100000 in
set_option maxHeartbeats 4000000 in
theorem s_X9_pushed_L78 (M : Mem) (x1 : Int32) (x2 : Int32) (x3 : Int32) (x4 : Int32) (x5 : Int32) {Po : Po_} (x : (Int32 × Int32) ⊕ (Int32)) (h : X9_pushed_L78 x1 x2 x3 (x4, x5) = some x) (hI : ∀ (ix4 : Int32) (ix5 : Int32), x = .inl (ix4, ix5) → T RX9 cX9_pushed 6 (some .int) 0 2 0 0 false Po 78 [aU, aI x1, aI x2, aI x3, aI ix4, aI ix5] [] LAYM rfm M 0 0) (hE0 : ∀ (er : Int32), x = .inr er → Po (vI er) LAYM rfm M) : T RX9 cX9_pushed 6 (some .int) 0 2 0 0 false Po 78 [aU, aI x1, aI x2, aI x3, aI x4, aI x5] [] LAYM rfm M 0 0 := by
  unfold X9_pushed_L78 at h
  simp only at h
  refine T_iload dX9_pushed_78 rfl ?_
  refine T_bipush dX9_pushed_80 bp_16 ?_
  refine T_icmp_ge (tgt := 119) dX9_pushed_82 (by decide) (fun hc => ?_) (fun hc => ?_)
  · have h := it_pos hc h
    refine T_iload dX9_pushed_119 rfl ?_
    obtain rfl := sm1 h
    exact T_iret dX9_pushed_121 (hE0 _ rfl)
  · have h := it_neg hc h
    refine T_iload dX9_pushed_85 rfl ?_
    refine T_iload_n dX9_pushed_87 rfl ?_
    refine T_iload dX9_pushed_88 rfl ?_
    obtain ⟨r_15, hc_16, h⟩ := bd1_some h
    refine T_csi (as := [vI x1, vI x5]) dX9_pushed_90 cw_X9_has ml_X9_170 mt_X9_has rfl (Nat.le_of_ble_eq_true rfl) (Nat.le_of_ble_eq_true rfl) (m_X9_has M x1 x5  _ hc_16) ?_
    refine T_if_eq (tgt := 109) dX9_pushed_93 (by decide) (fun hc => ?_) (fun hc => ?_)
    · have h := it_pos hc h
      refine T_iconst dX9_pushed_109 ic_0 ?_
      refine T_ior dX9_pushed_110 ?_
      obtain ⟨x_17, ex_18, h⟩ := lett_some h
      refine T_topI ex_18 ?_
      refine T_istore (i := 4) (L' := [aU, aI x1, aI x2, aI x3, aI x_17, aI x5]) dX9_pushed_111 (Nat.le_of_ble_eq_true rfl) rfl ?_
      obtain ⟨x_19, ex_20, h⟩ := lett_some h
      refine T_iinc (L' := [aU, aI x1, aI x2, aI x3, aI x_17, aI x_19]) dX9_pushed_113 rfl (ic_inc ic_1 ex_20) (Nat.le_of_ble_eq_true rfl) rfl ?_
      refine T_goto (tgt := 78) dX9_pushed_116 (by decide) ?_
      obtain rfl := sm1 h
      exact hI _ _ rfl
    · have h := it_neg hc h
      refine T_iconst dX9_pushed_96 ic_1 ?_
      refine T_iload dX9_pushed_97 rfl ?_
      refine T_iload_n dX9_pushed_99 rfl ?_
      refine T_isub dX9_pushed_100 ?_
      refine T_iconst dX9_pushed_101 ic_4 ?_
      refine T_iload_n dX9_pushed_102 rfl ?_
      refine T_imul dX9_pushed_103 ?_
      refine T_isub dX9_pushed_104 ?_
      refine T_ishl dX9_pushed_105 ?_
      refine T_goto (tgt := 110) dX9_pushed_106 (by decide) ?_
      refine T_ior dX9_pushed_110 ?_
      obtain ⟨x_21, ex_22, h⟩ := lett_some h
      refine T_topI ex_22 ?_
      refine T_istore (i := 4) (L' := [aU, aI x1, aI x2, aI x3, aI x_21, aI x5]) dX9_pushed_111 (Nat.le_of_ble_eq_true rfl) rfl ?_
      obtain ⟨x_23, ex_24, h⟩ := lett_some h
      refine T_iinc (L' := [aU, aI x1, aI x2, aI x3, aI x_21, aI x_23]) dX9_pushed_113 rfl (ic_inc ic_1 ex_24) (Nat.le_of_ble_eq_true rfl) rfl ?_
      refine T_goto (tgt := 78) dX9_pushed_116 (by decide) ?_
      obtain rfl := sm1 h
      exact hI _ _ rfl
set_option maxRecDepth 100000 in
set_option maxHeartbeats 4000000 in
theorem l_X9_pushed_L78 (M : Mem) (x1 : Int32) (x2 : Int32) (x3 : Int32) {Po : Po_} (er : Int32) : ∀ (k : Nat) (x4 : Int32) (x5 : Int32), loop (X9_pushed_L78 x1 x2 x3) k (x4, x5) = some er → (Po (vI er) LAYM rfm M) → T RX9 cX9_pushed 6 (some .int) 0 2 0 0 false Po 78 [aU, aI x1, aI x2, aI x3, aI x4, aI x5] [] LAYM rfm M 0 0 := by
  intro k
  induction k with
  | zero => intro x4 x5 h; cases h
  | succ k ih =>
    intro x4 x5 h hE
    obtain ⟨x, hx, hx1, hx2⟩ := loop_succ h
    exact s_X9_pushed_L78  M x1 x2 x3  x4 x5 x hx (fun q0 q1 e => ih q0 q1 (hx1 _ e) hE) (fun q0 e => by cases hx2 _ e; exact hE)
set_option maxRecDepth 100000 in
set_option maxHeartbeats 4000000 in
theorem m_X9_pushed (M : Mem) (x1 : Int32) (r : Int32) (h : F_X9_pushed x1 = some r) : Cal yX9_pushed cX9_pushed 6 (some .int) 0 2 0 0 false [vR (some 0), vI x1] LAYM rfm M (eqp (vI r) LAYM rfm M) := by
  refine Cal.of (by decide +kernel) (Nat.le_of_ble_eq_true rfl) (fun h => by cases h) ?_
  unfold F_X9_pushed at h
  show T RX9 cX9_pushed 6 (some .int) 0 2 0 0 false (eqp (vI r) LAYM rfm M) 0 [aR (some 0), aI x1, aU, aU, aU, aU] [] LAYM rfm M 0 0
  refine T_iconst dX9_pushed_0 ic_4 ?_
  refine T_istore_n (i := 2) (L' := [aR (some 0), aI x1, aI (nI 4), aU, aU, aU]) dX9_pushed_1 rfl (Nat.le_of_ble_eq_true rfl) rfl ?_
  refine T_iconst dX9_pushed_2 ic_4 ?_
  refine T_istore_n (i := 3) (L' := [aR (some 0), aI x1, aI (nI 4), aI (nI 4), aU, aU]) dX9_pushed_3 rfl (Nat.le_of_ble_eq_true rfl) rfl ?_
  refine T_iconst dX9_pushed_4 ic_0 ?_
  refine T_istore (i := 4) (L' := [aR (some 0), aI x1, aI (nI 4), aI (nI 4), aI 0, aU]) dX9_pushed_5 (Nat.le_of_ble_eq_true rfl) rfl ?_
  obtain ⟨x_13, x_14, hl, h⟩ := bd2_some h
  refine T_mask [false, true, true, true, true, true] rfl ?_
  refine l_X9_pushed_L7  M x1  _ _ FU (nI 4) (nI 4) 0 hl ?_
  refine T_iconst dX9_pushed_72 ic_0 ?_
  refine T_istore (i := 4) (L' := [aU, aI x1, aI x_13, aI x_14, aI 0, aU]) dX9_pushed_73 (Nat.le_of_ble_eq_true rfl) rfl ?_
  refine T_iconst dX9_pushed_75 ic_0 ?_
  refine T_istore (i := 5) (L' := [aU, aI x1, aI x_13, aI x_14, aI 0, aI 0]) dX9_pushed_76 (Nat.le_of_ble_eq_true rfl) rfl ?_
  exact l_X9_pushed_L78  M x1 x_13 x_14  _ FU 0 0 h ⟨rfl, rfl, rfl, rfl⟩
def X9_shape_L4 (M : Mem) (x1 : Int32) : Int32 × Int32 → Option ((Int32 × Int32) ⊕ (Int32))
  | (x2, x3) =>
    if (gI M 0 11) ≤ x3 then bd1 (F_X9_pushed x2) fun r_1 => some (.inr r_1)
    else bd1 (F_X9_has x1 x3) fun r_3 => if r_3 = 0 then lett (x2 ||| 0) fun x_5 => lett (x3 + 1) fun x_7 => some (.inl (x_5, x_7))
    else chk (¬ (gI M 0 10) = 0) (chk (¬ (gI M 0 10) = 0) (lett (x2 ||| (ish 1 (((nI 4) * (x3 / (gI M 0 10))) + (irm x3 (gI M 0 10))))) fun x_11 => lett (x3 + 1) fun x_13 => some (.inl (x_11, x_13))))
def F_X9_shape (M : Mem) (x1 : Int32) : Option (Int32) :=
 loop (X9_shape_L4 M x1) FU (0, 0)
set_option maxRecDepth 100000 in
set_option maxHeartbeats 4000000 in
theorem s_X9_shape_L4 (M : Mem) (x1 : Int32) (x2 : Int32) (x3 : Int32) {Po : Po_} (x : (Int32 × Int32) ⊕ (Int32)) (h : X9_shape_L4 M x1 (x2, x3) = some x) (hI : ∀ (ix2 : Int32) (ix3 : Int32), x = .inl (ix2, ix3) → T RX9 cX9_shape 4 (some .int) 0 3 0 0 false Po 4 [aR (some 0), aI x1, aI ix2, aI ix3] [] LAYM rfm M 0 0) (hE0 : ∀ (er : Int32), x = .inr er → Po (vI er) LAYM rfm M) : T RX9 cX9_shape 4 (some .int) 0 3 0 0 false Po 4 [aR (some 0), aI x1, aI x2, aI x3] [] LAYM rfm M 0 0 := by
  unfold X9_shape_L4 at h
  simp only at h
  refine T_iload_n dX9_shape_4 rfl ?_
  refine T_aload_n dX9_shape_5 rfl ?_
  refine T_getI dX9_shape_6 clOK_X9 fl_X9_155 lyM_0 rfl ?_
  refine T_icmp_ge (tgt := 50) dX9_shape_9 (by decide) (fun hc => ?_) (fun hc => ?_)
  · have h := it_pos hc h
    refine T_aload_n dX9_shape_50 rfl ?_
    refine T_iload_n dX9_shape_51 rfl ?_
    obtain ⟨r_1, hc_2, h⟩ := bd1_some h
    refine T_cvi (as := [vI x2]) dX9_shape_52 cw_X9_pushed ml_X9_221 mi_X9_pushed se_X9_pushed lyM_0 rfl (by decide) rfl (Nat.le_of_ble_eq_true rfl) (Nat.le_of_ble_eq_true rfl) (m_X9_pushed M x2  _ hc_2) ?_
    obtain rfl := sm1 h
    exact T_iret dX9_shape_55 (hE0 _ rfl)
  · have h := it_neg hc h
    refine T_iload_n dX9_shape_12 rfl ?_
    refine T_iload_n dX9_shape_13 rfl ?_
    refine T_iload_n dX9_shape_14 rfl ?_
    obtain ⟨r_3, hc_4, h⟩ := bd1_some h
    refine T_csi (as := [vI x1, vI x3]) dX9_shape_15 cw_X9_has ml_X9_170 mt_X9_has rfl (Nat.le_of_ble_eq_true rfl) (Nat.le_of_ble_eq_true rfl) (m_X9_has M x1 x3  _ hc_4) ?_
    refine T_if_eq (tgt := 41) dX9_shape_18 (by decide) (fun hc => ?_) (fun hc => ?_)
    · have h := it_pos hc h
      refine T_iconst dX9_shape_41 ic_0 ?_
      refine T_ior dX9_shape_42 ?_
      obtain ⟨x_5, ex_6, h⟩ := lett_some h
      refine T_topI ex_6 ?_
      refine T_istore_n (i := 2) (L' := [aR (some 0), aI x1, aI x_5, aI x3]) dX9_shape_43 rfl (Nat.le_of_ble_eq_true rfl) rfl ?_
      obtain ⟨x_7, ex_8, h⟩ := lett_some h
      refine T_iinc (L' := [aR (some 0), aI x1, aI x_5, aI x_7]) dX9_shape_44 rfl (ic_inc ic_1 ex_8) (Nat.le_of_ble_eq_true rfl) rfl ?_
      refine T_goto (tgt := 4) dX9_shape_47 (by decide) ?_
      obtain rfl := sm1 h
      exact hI _ _ rfl
    · have h := it_neg hc h
      refine T_iconst dX9_shape_21 ic_1 ?_
      refine T_iconst dX9_shape_22 ic_4 ?_
      refine T_iload_n dX9_shape_23 rfl ?_
      refine T_aload_n dX9_shape_24 rfl ?_
      refine T_getI dX9_shape_25 clOK_X9 fl_X9_158 lyM_0 rfl ?_
      obtain ⟨hz_9, h⟩ := chk_some h
      refine T_idiv dX9_shape_28 hz_9 ?_
      refine T_imul dX9_shape_29 ?_
      refine T_iload_n dX9_shape_30 rfl ?_
      refine T_aload_n dX9_shape_31 rfl ?_
      refine T_getI dX9_shape_32 clOK_X9 fl_X9_158 lyM_0 rfl ?_
      obtain ⟨hz_10, h⟩ := chk_some h
      refine T_irem dX9_shape_35 hz_10 ?_
      refine T_iadd dX9_shape_36 ?_
      refine T_ishl dX9_shape_37 ?_
      refine T_goto (tgt := 42) dX9_shape_38 (by decide) ?_
      refine T_ior dX9_shape_42 ?_
      obtain ⟨x_11, ex_12, h⟩ := lett_some h
      refine T_topI ex_12 ?_
      refine T_istore_n (i := 2) (L' := [aR (some 0), aI x1, aI x_11, aI x3]) dX9_shape_43 rfl (Nat.le_of_ble_eq_true rfl) rfl ?_
      obtain ⟨x_13, ex_14, h⟩ := lett_some h
      refine T_iinc (L' := [aR (some 0), aI x1, aI x_11, aI x_13]) dX9_shape_44 rfl (ic_inc ic_1 ex_14) (Nat.le_of_ble_eq_true rfl) rfl ?_
      refine T_goto (tgt := 4) dX9_shape_47 (by decide) ?_
      obtain rfl := sm1 h
      exact hI _ _ rfl
set_option maxRecDepth 100000 in
set_option maxHeartbeats 4000000 in
theorem l_X9_shape_L4 (M : Mem) (x1 : Int32) {Po : Po_} (er : Int32) : ∀ (k : Nat) (x2 : Int32) (x3 : Int32), loop (X9_shape_L4 M x1) k (x2, x3) = some er → (Po (vI er) LAYM rfm M) → T RX9 cX9_shape 4 (some .int) 0 3 0 0 false Po 4 [aR (some 0), aI x1, aI x2, aI x3] [] LAYM rfm M 0 0 := by
  intro k
  induction k with
  | zero => intro x2 x3 h; cases h
  | succ k ih =>
    intro x2 x3 h hE
    obtain ⟨x, hx, hx1, hx2⟩ := loop_succ h
    exact s_X9_shape_L4  M x1  x2 x3 x hx (fun q0 q1 e => ih q0 q1 (hx1 _ e) hE) (fun q0 e => by cases hx2 _ e; exact hE)
set_option maxRecDepth 100000 in
set_option maxHeartbeats 4000000 in
theorem m_X9_shape (M : Mem) (x1 : Int32) (r : Int32) (h : F_X9_shape M x1 = some r) : Cal yX9_shape cX9_shape 4 (some .int) 0 3 0 0 false [vR (some 0), vI x1] LAYM rfm M (eqp (vI r) LAYM rfm M) := by
  refine Cal.of (by decide +kernel) (Nat.le_of_ble_eq_true rfl) (fun h => by cases h) ?_
  unfold F_X9_shape at h
  show T RX9 cX9_shape 4 (some .int) 0 3 0 0 false (eqp (vI r) LAYM rfm M) 0 [aR (some 0), aI x1, aU, aU] [] LAYM rfm M 0 0
  refine T_iconst dX9_shape_0 ic_0 ?_
  refine T_istore_n (i := 2) (L' := [aR (some 0), aI x1, aI 0, aU]) dX9_shape_1 rfl (Nat.le_of_ble_eq_true rfl) rfl ?_
  refine T_iconst dX9_shape_2 ic_0 ?_
  refine T_istore_n (i := 3) (L' := [aR (some 0), aI x1, aI 0, aI 0]) dX9_shape_3 rfl (Nat.le_of_ble_eq_true rfl) rfl ?_
  exact l_X9_shape_L4  M x1  _ FU 0 0 h ⟨rfl, rfl, rfl, rfl⟩
def X9_quarter_L4 (x1 : Int32) : Int32 × Int32 → Option ((Int32 × Int32) ⊕ (Int32))
  | (x2, x3) =>
    if (nI 16) ≤ x3 then bd1 (F_X9_pushed x2) fun r_1 => some (.inr r_1)
    else bd1 (F_X9_has x1 x3) fun r_3 => if r_3 = 0 then lett (x2 ||| 0) fun x_5 => lett (x3 + 1) fun x_7 => some (.inl (x_5, x_7))
    else lett (x2 ||| (ish 1 ((((nI 4) * (irm x3 (nI 4))) + (nI 3)) - (x3 / (nI 4))))) fun x_9 => lett (x3 + 1) fun x_11 => some (.inl (x_9, x_11))
def F_X9_quarter (x1 : Int32) : Option (Int32) :=
 loop (X9_quarter_L4 x1) FU (0, 0)
set_option maxRecDepth 100000 in
set_option maxHeartbeats 4000000 in
theorem s_X9_quarter_L4 (M : Mem) (x1 : Int32) (x2 : Int32) (x3 : Int32) {Po : Po_} (x : (Int32 × Int32) ⊕ (Int32)) (h : X9_quarter_L4 x1 (x2, x3) = some x) (hI : ∀ (ix2 : Int32) (ix3 : Int32), x = .inl (ix2, ix3) → T RX9 cX9_quarter 4 (some .int) 0 3 0 0 false Po 4 [aR (some 0), aI x1, aI ix2, aI ix3] [] LAYM rfm M 0 0) (hE0 : ∀ (er : Int32), x = .inr er → Po (vI er) LAYM rfm M) : T RX9 cX9_quarter 4 (some .int) 0 3 0 0 false Po 4 [aR (some 0), aI x1, aI x2, aI x3] [] LAYM rfm M 0 0 := by
  unfold X9_quarter_L4 at h
  simp only at h
  refine T_iload_n dX9_quarter_4 rfl ?_
  refine T_bipush dX9_quarter_5 bp_16 ?_
  refine T_icmp_ge (tgt := 44) dX9_quarter_7 (by decide) (fun hc => ?_) (fun hc => ?_)
  · have h := it_pos hc h
    refine T_aload_n dX9_quarter_44 rfl ?_
    refine T_iload_n dX9_quarter_45 rfl ?_
    obtain ⟨r_1, hc_2, h⟩ := bd1_some h
    refine T_cvi (as := [vI x2]) dX9_quarter_46 cw_X9_pushed ml_X9_221 mi_X9_pushed se_X9_pushed lyM_0 rfl (by decide) rfl (Nat.le_of_ble_eq_true rfl) (Nat.le_of_ble_eq_true rfl) (m_X9_pushed M x2  _ hc_2) ?_
    obtain rfl := sm1 h
    exact T_iret dX9_quarter_49 (hE0 _ rfl)
  · have h := it_neg hc h
    refine T_iload_n dX9_quarter_10 rfl ?_
    refine T_iload_n dX9_quarter_11 rfl ?_
    refine T_iload_n dX9_quarter_12 rfl ?_
    obtain ⟨r_3, hc_4, h⟩ := bd1_some h
    refine T_csi (as := [vI x1, vI x3]) dX9_quarter_13 cw_X9_has ml_X9_170 mt_X9_has rfl (Nat.le_of_ble_eq_true rfl) (Nat.le_of_ble_eq_true rfl) (m_X9_has M x1 x3  _ hc_4) ?_
    refine T_if_eq (tgt := 35) dX9_quarter_16 (by decide) (fun hc => ?_) (fun hc => ?_)
    · have h := it_pos hc h
      refine T_iconst dX9_quarter_35 ic_0 ?_
      refine T_ior dX9_quarter_36 ?_
      obtain ⟨x_5, ex_6, h⟩ := lett_some h
      refine T_topI ex_6 ?_
      refine T_istore_n (i := 2) (L' := [aR (some 0), aI x1, aI x_5, aI x3]) dX9_quarter_37 rfl (Nat.le_of_ble_eq_true rfl) rfl ?_
      obtain ⟨x_7, ex_8, h⟩ := lett_some h
      refine T_iinc (L' := [aR (some 0), aI x1, aI x_5, aI x_7]) dX9_quarter_38 rfl (ic_inc ic_1 ex_8) (Nat.le_of_ble_eq_true rfl) rfl ?_
      refine T_goto (tgt := 4) dX9_quarter_41 (by decide) ?_
      obtain rfl := sm1 h
      exact hI _ _ rfl
    · have h := it_neg hc h
      refine T_iconst dX9_quarter_19 ic_1 ?_
      refine T_iconst dX9_quarter_20 ic_4 ?_
      refine T_iload_n dX9_quarter_21 rfl ?_
      refine T_iconst dX9_quarter_22 ic_4 ?_
      refine T_irem dX9_quarter_23 (by decide) ?_
      refine T_imul dX9_quarter_24 ?_
      refine T_iconst dX9_quarter_25 ic_3 ?_
      refine T_iadd dX9_quarter_26 ?_
      refine T_iload_n dX9_quarter_27 rfl ?_
      refine T_iconst dX9_quarter_28 ic_4 ?_
      refine T_idiv dX9_quarter_29 (by decide) ?_
      refine T_isub dX9_quarter_30 ?_
      refine T_ishl dX9_quarter_31 ?_
      refine T_goto (tgt := 36) dX9_quarter_32 (by decide) ?_
      refine T_ior dX9_quarter_36 ?_
      obtain ⟨x_9, ex_10, h⟩ := lett_some h
      refine T_topI ex_10 ?_
      refine T_istore_n (i := 2) (L' := [aR (some 0), aI x1, aI x_9, aI x3]) dX9_quarter_37 rfl (Nat.le_of_ble_eq_true rfl) rfl ?_
      obtain ⟨x_11, ex_12, h⟩ := lett_some h
      refine T_iinc (L' := [aR (some 0), aI x1, aI x_9, aI x_11]) dX9_quarter_38 rfl (ic_inc ic_1 ex_12) (Nat.le_of_ble_eq_true rfl) rfl ?_
      refine T_goto (tgt := 4) dX9_quarter_41 (by decide) ?_
      obtain rfl := sm1 h
      exact hI _ _ rfl
set_option maxRecDepth 100000 in
set_option maxHeartbeats 4000000 in
theorem l_X9_quarter_L4 (M : Mem) (x1 : Int32) {Po : Po_} (er : Int32) : ∀ (k : Nat) (x2 : Int32) (x3 : Int32), loop (X9_quarter_L4 x1) k (x2, x3) = some er → (Po (vI er) LAYM rfm M) → T RX9 cX9_quarter 4 (some .int) 0 3 0 0 false Po 4 [aR (some 0), aI x1, aI x2, aI x3] [] LAYM rfm M 0 0 := by
  intro k
  induction k with
  | zero => intro x2 x3 h; cases h
  | succ k ih =>
    intro x2 x3 h hE
    obtain ⟨x, hx, hx1, hx2⟩ := loop_succ h
    exact s_X9_quarter_L4  M x1  x2 x3 x hx (fun q0 q1 e => ih q0 q1 (hx1 _ e) hE) (fun q0 e => by cases hx2 _ e; exact hE)
set_option maxRecDepth 100000 in
set_option maxHeartbeats 4000000 in
theorem m_X9_quarter (M : Mem) (x1 : Int32) (r : Int32) (h : F_X9_quarter x1 = some r) : Cal yX9_quarter cX9_quarter 4 (some .int) 0 3 0 0 false [vR (some 0), vI x1] LAYM rfm M (eqp (vI r) LAYM rfm M) := by
  refine Cal.of (by decide +kernel) (Nat.le_of_ble_eq_true rfl) (fun h => by cases h) ?_
  unfold F_X9_quarter at h
  show T RX9 cX9_quarter 4 (some .int) 0 3 0 0 false (eqp (vI r) LAYM rfm M) 0 [aR (some 0), aI x1, aU, aU] [] LAYM rfm M 0 0
  refine T_iconst dX9_quarter_0 ic_0 ?_
  refine T_istore_n (i := 2) (L' := [aR (some 0), aI x1, aI 0, aU]) dX9_quarter_1 rfl (Nat.le_of_ble_eq_true rfl) rfl ?_
  refine T_iconst dX9_quarter_2 ic_0 ?_
  refine T_istore_n (i := 3) (L' := [aR (some 0), aI x1, aI 0, aI 0]) dX9_quarter_3 rfl (Nat.le_of_ble_eq_true rfl) rfl ?_
  exact l_X9_quarter_L4  M x1  _ FU 0 0 h ⟨rfl, rfl, rfl, rfl⟩
